theorem k_L_13 : LKV RL RX10 13 yX10_letter cX10_letter 2 (some .int) 1 := ⟨⟨tb 185 (by decide +kernel), tb 1 (by decide +kernel), ⟨by decide, by decide⟩, by decide +kernel, tb 182 (by decide +kernel)⟩, tb 183 (by decide +kernel), tb 184 (by decide +kernel)⟩
theorem k_L_17 : LKV RL RX11 17 yX11_letter cX11_letter 2 (some .int) 1 := ⟨⟨tb 925 (by decide +kernel), tb 6 (by decide +kernel), ⟨by decide, by decide⟩, by decide +kernel, tb 922 (by decide +kernel)⟩, tb 923 (by decide +kernel), tb 924 (by decide +kernel)⟩
theorem k_L_18 : LKV RL RX10 18 yX10_blank cX10_blank 2 (some .int) 0 := ⟨⟨tb 193 (by decide +kernel), tb 1 (by decide +kernel), ⟨by decide, by decide⟩, by decide +kernel, tb 190 (by decide +kernel)⟩, tb 191 (by decide +kernel), tb 192 (by decide +kernel)⟩
theorem k_L_22 : LKV RL RX11 22 yX11_blank cX11_blank 2 (some .int) 0 := ⟨⟨tb 933 (by decide +kernel), tb 6 (by decide +kernel), ⟨by decide, by decide⟩, by decide +kernel, tb 930 (by decide +kernel)⟩, tb 931 (by decide +kernel), tb 932 (by decide +kernel)⟩
theorem k_L_23 : LKV RL RX10 23 yX10_fault cX10_fault 1 (some .int) 0 := ⟨⟨tb 197 (by decide +kernel), tb 1 (by decide +kernel), ⟨by decide, by decide⟩, by decide +kernel, tb 194 (by decide +kernel)⟩, tb 195 (by decide +kernel), tb 196 (by decide +kernel)⟩
theorem k_L_26 : LKV RL RX11 26 yX11_fault cX11_fault 1 (some .int) 0 := ⟨⟨tb 937 (by decide +kernel), tb 6 (by decide +kernel), ⟨by decide, by decide⟩, by decide +kernel, tb 934 (by decide +kernel)⟩, tb 935 (by decide +kernel), tb 936 (by decide +kernel)⟩
theorem k_L_27 : LKV RL RX10 27 yX10_city cX10_city 1 (some .int) 0 := ⟨⟨tb 316 (by decide +kernel), tb 1 (by decide +kernel), ⟨by decide, by decide⟩, by decide +kernel, tb 313 (by decide +kernel)⟩, tb 314 (by decide +kernel), tb 315 (by decide +kernel)⟩
theorem k_L_30 : LKV RL RX11 30 yX11_city cX11_city 3 (some .int) 0 := ⟨⟨tb 961 (by decide +kernel), tb 6 (by decide +kernel), ⟨by decide, by decide⟩, by decide +kernel, tb 958 (by decide +kernel)⟩, tb 959 (by decide +kernel), tb 960 (by decide +kernel)⟩
theorem k_L_31 : LKV RL RX10 31 yX10_tune cX10_tune 4 (some .int) 1 := ⟨⟨tb 412 (by decide +kernel), tb 1 (by decide +kernel), ⟨by decide, by decide⟩, by decide +kernel, tb 409 (by decide +kernel)⟩, tb 410 (by decide +kernel), tb 411 (by decide +kernel)⟩
theorem k_L_34 : LKV RL RX11 34 yX11_tune cX11_tune 4 (some .int) 1 := ⟨⟨tb 965 (by decide +kernel), tb 6 (by decide +kernel), ⟨by decide, by decide⟩, by decide +kernel, tb 962 (by decide +kernel)⟩, tb 963 (by decide +kernel), tb 964 (by decide +kernel)⟩
theorem k_L_35 : LKV RL RX10 35 yX10_told cX10_told 5 (some .int) 2 := ⟨⟨tb 435 (by decide +kernel), tb 1 (by decide +kernel), ⟨by decide, by decide⟩, by decide +kernel, tb 432 (by decide +kernel)⟩, tb 433 (by decide +kernel), tb 434 (by decide +kernel)⟩
theorem k_L_39 : LKV RL RX11 39 yX11_told cX11_told 3 (some .int) 2 := ⟨⟨tb 974 (by decide +kernel), tb 6 (by decide +kernel), ⟨by decide, by decide⟩, by decide +kernel, tb 971 (by decide +kernel)⟩, tb 972 (by decide +kernel), tb 973 (by decide +kernel)⟩
theorem k_L_40 : LKV RL RX10 40 yX10_street cX10_street 4 (some .int) 2 := ⟨⟨tb 464 (by decide +kernel), tb 1 (by decide +kernel), ⟨by decide, by decide⟩, by decide +kernel, tb 461 (by decide +kernel)⟩, tb 462 (by decide +kernel), tb 463 (by decide +kernel)⟩
theorem k_L_43 : LKV RL RX11 43 yX11_street cX11_street 3 (some .int) 2 := ⟨⟨tb 1039 (by decide +kernel), tb 6 (by decide +kernel), ⟨by decide, by decide⟩, by decide +kernel, tb 1036 (by decide +kernel)⟩, tb 1037 (by decide +kernel), tb 1038 (by decide +kernel)⟩
theorem k_L_44 : LKV RL RX10 44 yX10_as cX10_as 4 (some .int) 2 := ⟨⟨tb 566 (by decide +kernel), tb 1 (by decide +kernel), ⟨by decide, by decide⟩, by decide +kernel, tb 563 (by decide +kernel)⟩, tb 564 (by decide +kernel), tb 565 (by decide +kernel)⟩
theorem k_L_47 : LKV RL RX11 47 yX11_as cX11_as 4 (some .int) 2 := ⟨⟨tb 1073 (by decide +kernel), tb 6 (by decide +kernel), ⟨by decide, by decide⟩, by decide +kernel, tb 1070 (by decide +kernel)⟩, tb 1071 (by decide +kernel), tb 1072 (by decide +kernel)⟩
theorem k_L_48 : LKV RL RX10 48 yX10_comes cX10_comes 4 (some .int) 2 := ⟨⟨tb 574 (by decide +kernel), tb 1 (by decide +kernel), ⟨by decide, by decide⟩, by decide +kernel, tb 571 (by decide +kernel)⟩, tb 572 (by decide +kernel), tb 573 (by decide +kernel)⟩
theorem k_L_51 : LKV RL RX11 51 yX11_comes cX11_comes 3 (some .int) 2 := ⟨⟨tb 1017 (by decide +kernel), tb 6 (by decide +kernel), ⟨by decide, by decide⟩, by decide +kernel, tb 1014 (by decide +kernel)⟩, tb 1015 (by decide +kernel), tb 1016 (by decide +kernel)⟩
theorem k_L_52 : LKV RL RX10 52 yX10_walk cX10_walk 3 (some .int) 1 := ⟨⟨tb 579 (by decide +kernel), tb 1 (by decide +kernel), ⟨by decide, by decide⟩, by decide +kernel, tb 576 (by decide +kernel)⟩, tb 577 (by decide +kernel), tb 578 (by decide +kernel)⟩
theorem k_L_55 : LKV RL RX11 55 yX11_walk cX11_walk 2 (some .int) 1 := ⟨⟨tb 1078 (by decide +kernel), tb 6 (by decide +kernel), ⟨by decide, by decide⟩, by decide +kernel, tb 1075 (by decide +kernel)⟩, tb 1076 (by decide +kernel), tb 1077 (by decide +kernel)⟩
theorem k_L_56 : LKV RL RX10 56 yX10_stand cX10_stand 3 (some .int) 1 := ⟨⟨tb 617 (by decide +kernel), tb 1 (by decide +kernel), ⟨by decide, by decide⟩, by decide +kernel, tb 614 (by decide +kernel)⟩, tb 615 (by decide +kernel), tb 616 (by decide +kernel)⟩
theorem k_L_59 : LKV RL RX11 59 yX11_stand cX11_stand 3 (some .int) 1 := ⟨⟨tb 1094 (by decide +kernel), tb 6 (by decide +kernel), ⟨by decide, by decide⟩, by decide +kernel, tb 1091 (by decide +kernel)⟩, tb 1092 (by decide +kernel), tb 1093 (by decide +kernel)⟩
theorem k_L_60 : LKV RL RX10 60 yX10_dusk cX10_dusk 1 (some .int) 0 := ⟨⟨tb 621 (by decide +kernel), tb 1 (by decide +kernel), ⟨by decide, by decide⟩, by decide +kernel, tb 618 (by decide +kernel)⟩, tb 619 (by decide +kernel), tb 620 (by decide +kernel)⟩
theorem k_L_63 : LKV RL RX11 63 yX11_dusk cX11_dusk 1 (some .int) 0 := ⟨⟨tb 1102 (by decide +kernel), tb 6 (by decide +kernel), ⟨by decide, by decide⟩, by decide +kernel, tb 1099 (by decide +kernel)⟩, tb 1100 (by decide +kernel), tb 1101 (by decide +kernel)⟩
theorem k_L_64 : LKV RL RX10 64 yX10_sing cX10_sing 7 (some .int) 3 := ⟨⟨tb 629 (by decide +kernel), tb 1 (by decide +kernel), ⟨by decide, by decide⟩, by decide +kernel, tb 626 (by decide +kernel)⟩, tb 627 (by decide +kernel), tb 628 (by decide +kernel)⟩
theorem k_L_68 : LKV RL RX11 68 yX11_sing cX11_sing 5 (some .int) 3 := ⟨⟨tb 1106 (by decide +kernel), tb 6 (by decide +kernel), ⟨by decide, by decide⟩, by decide +kernel, tb 1103 (by decide +kernel)⟩, tb 1104 (by decide +kernel), tb 1105 (by decide +kernel)⟩
theorem k_L_69 : LKV RL RX10 69 yX10_raise cX10_raise 4 (some .int) 2 := ⟨⟨tb 634 (by decide +kernel), tb 1 (by decide +kernel), ⟨by decide, by decide⟩, by decide +kernel, tb 631 (by decide +kernel)⟩, tb 632 (by decide +kernel), tb 633 (by decide +kernel)⟩
theorem k_L_72 : LKV RL RX11 72 yX11_raise cX11_raise 4 (some .int) 2 := ⟨⟨tb 1110 (by decide +kernel), tb 6 (by decide +kernel), ⟨by decide, by decide⟩, by decide +kernel, tb 1107 (by decide +kernel)⟩, tb 1108 (by decide +kernel), tb 1109 (by decide +kernel)⟩
theorem k_L_73 : LKV RL RX10 73 yX10_way cX10_way 4 (some .int) 1 := ⟨⟨tb 639 (by decide +kernel), tb 1 (by decide +kernel), ⟨by decide, by decide⟩, by decide +kernel, tb 636 (by decide +kernel)⟩, tb 637 (by decide +kernel), tb 638 (by decide +kernel)⟩
theorem k_L_76 : LKV RL RX11 76 yX11_way cX11_way 2 (some .int) 1 := ⟨⟨tb 1114 (by decide +kernel), tb 6 (by decide +kernel), ⟨by decide, by decide⟩, by decide +kernel, tb 1111 (by decide +kernel)⟩, tb 1112 (by decide +kernel), tb 1113 (by decide +kernel)⟩
theorem k_L_77 : LKV RL RX10 77 yX10_become cX10_become 2 (some .int) 1 := ⟨⟨tb 683 (by decide +kernel), tb 1 (by decide +kernel), ⟨by decide, by decide⟩, by decide +kernel, tb 680 (by decide +kernel)⟩, tb 681 (by decide +kernel), tb 682 (by decide +kernel)⟩
theorem k_L_80 : LKV RL RX11 80 yX11_become cX11_become 2 (some .int) 1 := ⟨⟨tb 1143 (by decide +kernel), tb 6 (by decide +kernel), ⟨by decide, by decide⟩, by decide +kernel, tb 1140 (by decide +kernel)⟩, tb 1141 (by decide +kernel), tb 1142 (by decide +kernel)⟩
theorem k_L_81 : LKV RL RX10 81 yX10_apart cX10_apart 1 (some .int) 0 := ⟨⟨tb 701 (by decide +kernel), tb 1 (by decide +kernel), ⟨by decide, by decide⟩, by decide +kernel, tb 698 (by decide +kernel)⟩, tb 699 (by decide +kernel), tb 700 (by decide +kernel)⟩
theorem k_L_84 : LKV RL RX11 84 yX11_apart cX11_apart 1 (some .int) 0 := ⟨⟨tb 1156 (by decide +kernel), tb 6 (by decide +kernel), ⟨by decide, by decide⟩, by decide +kernel, tb 1153 (by decide +kernel)⟩, tb 1154 (by decide +kernel), tb 1155 (by decide +kernel)⟩
theorem k_L_85 : LKV RL RX10 85 yX10_near cX10_near 1 (some .int) 0 := ⟨⟨tb 708 (by decide +kernel), tb 1 (by decide +kernel), ⟨by decide, by decide⟩, by decide +kernel, tb 705 (by decide +kernel)⟩, tb 706 (by decide +kernel), tb 707 (by decide +kernel)⟩
theorem k_L_88 : LKV RL RX11 88 yX11_near cX11_near 1 (some .int) 0 := ⟨⟨tb 1163 (by decide +kernel), tb 6 (by decide +kernel), ⟨by decide, by decide⟩, by decide +kernel, tb 1160 (by decide +kernel)⟩, tb 1161 (by decide +kernel), tb 1162 (by decide +kernel)⟩
theorem k_L_89 : LKV RL RX10 89 yX10_see cX10_see 4 (some .int) 3 := ⟨⟨tb 717 (by decide +kernel), tb 1 (by decide +kernel), ⟨by decide, by decide⟩, by decide +kernel, tb 714 (by decide +kernel)⟩, tb 715 (by decide +kernel), tb 716 (by decide +kernel)⟩
theorem k_L_92 : LKV RL RX11 92 yX11_see cX11_see 4 (some .int) 3 := ⟨⟨tb 1171 (by decide +kernel), tb 6 (by decide +kernel), ⟨by decide, by decide⟩, by decide +kernel, tb 1168 (by decide +kernel)⟩, tb 1169 (by decide +kernel), tb 1170 (by decide +kernel)⟩
theorem k_L_93 : LKV RL RX10 93 yX10_forget cX10_forget 2 (some .int) 0 := ⟨⟨tb 725 (by decide +kernel), tb 1 (by decide +kernel), ⟨by decide, by decide⟩, by decide +kernel, tb 722 (by decide +kernel)⟩, tb 723 (by decide +kernel), tb 724 (by decide +kernel)⟩
theorem k_L_96 : LKV RL RX11 96 yX11_forget cX11_forget 2 (some .int) 0 := ⟨⟨tb 1175 (by decide +kernel), tb 6 (by decide +kernel), ⟨by decide, by decide⟩, by decide +kernel, tb 1172 (by decide +kernel)⟩, tb 1173 (by decide +kernel), tb 1174 (by decide +kernel)⟩
theorem k_L_97 : LKV RL RX10 97 yX10_wander cX10_wander 4 (some .int) 3 := ⟨⟨tb 729 (by decide +kernel), tb 1 (by decide +kernel), ⟨by decide, by decide⟩, by decide +kernel, tb 726 (by decide +kernel)⟩, tb 727 (by decide +kernel), tb 728 (by decide +kernel)⟩
theorem k_L_100 : LKV RL RX11 100 yX11_wander cX11_wander 9 (some .int) 3 := ⟨⟨tb 1179 (by decide +kernel), tb 6 (by decide +kernel), ⟨by decide, by decide⟩, by decide +kernel, tb 1176 (by decide +kernel)⟩, tb 1177 (by decide +kernel), tb 1178 (by decide +kernel)⟩
theorem k_L_101 : LKV RL RX10 101 yX10_image cX10_image 1 (some .int) 0 := ⟨⟨tb 754 (by decide +kernel), tb 1 (by decide +kernel), ⟨by decide, by decide⟩, by decide +kernel, tb 751 (by decide +kernel)⟩, tb 752 (by decide +kernel), tb 753 (by decide +kernel)⟩
theorem k_L_104 : LKV RL RX11 104 yX11_image cX11_image 1 (some .int) 0 := ⟨⟨tb 1201 (by decide +kernel), tb 6 (by decide +kernel), ⟨by decide, by decide⟩, by decide +kernel, tb 1198 (by decide +kernel)⟩, tb 1199 (by decide +kernel), tb 1200 (by decide +kernel)⟩
theorem k_L_105 : LKV RL RX10 105 yX10_restore cX10_restore 1 (some .int) 0 := ⟨⟨tb 765 (by decide +kernel), tb 1 (by decide +kernel), ⟨by decide, by decide⟩, by decide +kernel, tb 762 (by decide +kernel)⟩, tb 763 (by decide +kernel), tb 764 (by decide +kernel)⟩
theorem k_L_108 : LKV RL RX11 108 yX11_restore cX11_restore 1 (some .int) 0 := ⟨⟨tb 1205 (by decide +kernel), tb 6 (by decide +kernel), ⟨by decide, by decide⟩, by decide +kernel, tb 1202 (by decide +kernel)⟩, tb 1203 (by decide +kernel), tb 1204 (by decide +kernel)⟩
theorem k_L_109 : LKV RL RX10 109 yX10_count cX10_count 2 (some .int) 1 := ⟨⟨tb 769 (by decide +kernel), tb 1 (by decide +kernel), ⟨by decide, by decide⟩, by decide +kernel, tb 766 (by decide +kernel)⟩, tb 767 (by decide +kernel), tb 768 (by decide +kernel)⟩
theorem k_L_112 : LKV RL RX11 112 yX11_count cX11_count 2 (some .int) 1 := ⟨⟨tb 1209 (by decide +kernel), tb 6 (by decide +kernel), ⟨by decide, by decide⟩, by decide +kernel, tb 1206 (by decide +kernel)⟩, tb 1207 (by decide +kernel), tb 1208 (by decide +kernel)⟩
theorem k_L_113 : LKV RL RX10 113 yX10_digest cX10_digest 5 (some .long) 0 := ⟨⟨tb 778 (by decide +kernel), tb 1 (by decide +kernel), ⟨by decide, by decide⟩, by decide +kernel, tb 775 (by decide +kernel)⟩, tb 776 (by decide +kernel), tb 777 (by decide +kernel)⟩
theorem k_L_117 : LKV RL RX11 117 yX11_digest cX11_digest 3 (some .long) 0 := ⟨⟨tb 1221 (by decide +kernel), tb 6 (by decide +kernel), ⟨by decide, by decide⟩, by decide +kernel, tb 1218 (by decide +kernel)⟩, tb 1219 (by decide +kernel), tb 1220 (by decide +kernel)⟩
/-- letter: class and reference answer alike, and the invariant stays -/
def SP0 (Inv : ST → Prop) (σ : ST) (a b c : Int32) : Prop := ∃ r σ1, f_X10_letter a σ = some (r, σ1) ∧ ∃ σ2, f_X11_letter a σ1 = some (r, σ2) ∧ Inv σ2
/-- blank: class and reference answer alike, and the invariant stays -/
def SP1 (Inv : ST → Prop) (σ : ST) (a b c : Int32) : Prop := ∃ r σ1, f_X10_blank σ = some (r, σ1) ∧ ∃ σ2, f_X11_blank σ1 = some (r, σ2) ∧ Inv σ2
/-- fault: class and reference answer alike, and the invariant stays -/
def SP2 (Inv : ST → Prop) (σ : ST) (a b c : Int32) : Prop := ∃ r, f_X10_fault σ = some r ∧ f_X11_fault σ = some r ∧ Inv σ
/-- city: class and reference answer alike, and the invariant stays -/
def SP3 (Inv : ST → Prop) (σ : ST) (a b c : Int32) : Prop := wpCity σ (fun r σ1 => ∃ σ2, f_X11_city σ1 = some (r, σ2) ∧ Inv σ2)
/-- tune: class and reference answer alike, and the invariant stays -/
def SP4 (Inv : ST → Prop) (σ : ST) (a b c : Int32) : Prop := ∃ r σ1, f_X10_tune a σ = some (r, σ1) ∧ ∃ σ2, f_X11_tune a σ1 = some (r, σ2) ∧ Inv σ2
/-- told: class and reference answer alike, and the invariant stays -/
def SP5 (Inv : ST → Prop) (σ : ST) (a b c : Int32) : Prop := ∃ r, f_X10_told σ a b = some r ∧ f_X11_told σ a b = some r ∧ Inv σ
/-- street: class and reference answer alike, and the invariant stays -/
def SP6 (Inv : ST → Prop) (σ : ST) (a b c : Int32) : Prop := ∃ r, f_X10_street σ a b = some r ∧ ∃ σ2, f_X11_street a b σ = some (r, σ2) ∧ Inv σ2
/-- as: class and reference answer alike, and the invariant stays -/
def SP7 (Inv : ST → Prop) (σ : ST) (a b c : Int32) : Prop := ∃ r, f_X10_as σ a b = some r ∧ f_X11_as σ a b = some r ∧ Inv σ
/-- comes: class and reference answer alike, and the invariant stays -/
def SP8 (Inv : ST → Prop) (σ : ST) (a b c : Int32) : Prop := ∃ r, f_X10_comes σ a b = some r ∧ ∃ σ2, f_X11_comes a b σ = some (r, σ2) ∧ Inv σ2
/-- walk: class and reference answer alike, and the invariant stays -/
def SP9 (Inv : ST → Prop) (σ : ST) (a b c : Int32) : Prop := ∃ r σ1, f_X10_walk a σ = some (r, σ1) ∧ ∃ σ2, f_X11_walk a σ1 = some (r, σ2) ∧ Inv σ2
/-- stand: class and reference answer alike, and the invariant stays -/
def SP10 (Inv : ST → Prop) (σ : ST) (a b c : Int32) : Prop := ∃ r σ1, f_X10_stand a σ = some (r, σ1) ∧ ∃ σ2, f_X11_stand a σ1 = some (r, σ2) ∧ Inv σ2
/-- dusk: class and reference answer alike, and the invariant stays -/
def SP11 (Inv : ST → Prop) (σ : ST) (a b c : Int32) : Prop := ∃ r σ1, f_X10_dusk σ = some (r, σ1) ∧ ∃ σ2, f_X11_dusk σ1 = some (r, σ2) ∧ Inv σ2
/-- sing: class and reference answer alike, and the invariant stays -/
def SP12 (Inv : ST → Prop) (σ : ST) (a b c : Int32) : Prop := ∃ r σ1, f_X10_sing a b c σ = some (r, σ1) ∧ ∃ σ2, f_X11_sing a b c σ1 = some (r, σ2) ∧ Inv σ2
/-- raise: class and reference answer alike, and the invariant stays -/
def SP13 (Inv : ST → Prop) (σ : ST) (a b c : Int32) : Prop := ∃ r σ1, f_X10_raise a b σ = some (r, σ1) ∧ ∃ σ2, f_X11_raise a b σ1 = some (r, σ2) ∧ Inv σ2
/-- way: class and reference answer alike, and the invariant stays -/
def SP14 (Inv : ST → Prop) (σ : ST) (a b c : Int32) : Prop := ∃ r σ1, f_X10_way a σ = some (r, σ1) ∧ ∃ σ2, f_X11_way a σ1 = some (r, σ2) ∧ Inv σ2
/-- become: class and reference answer alike, and the invariant stays -/
def SP15 (Inv : ST → Prop) (σ : ST) (a b c : Int32) : Prop := ∃ r σ1, f_X10_become a σ = some (r, σ1) ∧ ∃ σ2, f_X11_become a σ1 = some (r, σ2) ∧ Inv σ2
/-- apart: class and reference answer alike, and the invariant stays -/
def SP16 (Inv : ST → Prop) (σ : ST) (a b c : Int32) : Prop := ∃ r, f_X10_apart σ = some r ∧ f_X11_apart σ = some r ∧ Inv σ
/-- near: class and reference answer alike, and the invariant stays -/
def SP17 (Inv : ST → Prop) (σ : ST) (a b c : Int32) : Prop := ∃ r, f_X10_near σ = some r ∧ ∃ σ2, f_X11_near σ = some (r, σ2) ∧ Inv σ2
/-- see: class and reference answer alike, and the invariant stays -/
def SP18 (Inv : ST → Prop) (σ : ST) (a b c : Int32) : Prop := ∃ r σ1, f_X10_see a b c σ = some (r, σ1) ∧ ∃ σ2, f_X11_see a b c σ1 = some (r, σ2) ∧ Inv σ2
/-- forget: class and reference answer alike, and the invariant stays -/
def SP19 (Inv : ST → Prop) (σ : ST) (a b c : Int32) : Prop := ∃ r σ1, f_X10_forget σ = some (r, σ1) ∧ ∃ σ2, f_X11_forget σ1 = some (r, σ2) ∧ Inv σ2
/-- wander: class and reference answer alike, and the invariant stays -/
def SP20 (Inv : ST → Prop) (σ : ST) (a b c : Int32) : Prop := ∃ r σ1, f_X10_wander a b c σ = some (r, σ1) ∧ ∃ σ2, f_X11_wander a b c σ1 = some (r, σ2) ∧ Inv σ2
/-- image: class and reference answer alike, and the invariant stays -/
def SP21 (Inv : ST → Prop) (σ : ST) (a b c : Int32) : Prop := ∃ r σ1, f_X10_image σ = some (r, σ1) ∧ ∃ σ2, f_X11_image σ1 = some (r, σ2) ∧ Inv σ2
/-- restore: class and reference answer alike, and the invariant stays -/
def SP22 (Inv : ST → Prop) (σ : ST) (a b c : Int32) : Prop := ∃ r σ1, f_X10_restore σ = some (r, σ1) ∧ ∃ σ2, f_X11_restore σ1 = some (r, σ2) ∧ Inv σ2
/-- count: class and reference answer alike, and the invariant stays -/
def SP23 (Inv : ST → Prop) (σ : ST) (a b c : Int32) : Prop := ∃ r, f_X10_count σ a = some r ∧ f_X11_count σ a = some r ∧ Inv σ
/-- digest: class and reference answer alike, and the invariant stays -/
def SP24 (Inv : ST → Prop) (σ : ST) (a b c : Int32) : Prop := ∃ r σ1, f_X10_digest σ = some (r, σ1) ∧ ∃ σ2, f_X11_digest σ1 = some (r, σ2) ∧ Inv σ2
def STEP (Inv : Nat → ST → Prop) : Prop := (∀ t σ, Inv t σ → Inv (t + 1) σ) ∧ ∀ t σ, t ≤ 512 → Inv t σ → ∀ a b c : Int32, SP0 (Inv (t + 1)) σ a b c ∧ SP1 (Inv (t + 1)) σ a b c ∧ SP2 (Inv (t + 1)) σ a b c ∧ SP3 (Inv (t + 1)) σ a b c ∧ SP4 (Inv (t + 1)) σ a b c ∧ SP5 (Inv (t + 1)) σ a b c ∧ SP6 (Inv (t + 1)) σ a b c ∧ SP7 (Inv (t + 1)) σ a b c ∧ SP8 (Inv (t + 1)) σ a b c ∧ SP9 (Inv (t + 1)) σ a b c ∧ SP10 (Inv (t + 1)) σ a b c ∧ SP11 (Inv (t + 1)) σ a b c ∧ SP12 (Inv (t + 1)) σ a b c ∧ SP13 (Inv (t + 1)) σ a b c ∧ SP14 (Inv (t + 1)) σ a b c ∧ SP15 (Inv (t + 1)) σ a b c ∧ SP16 (Inv (t + 1)) σ a b c ∧ SP17 (Inv (t + 1)) σ a b c ∧ SP18 (Inv (t + 1)) σ a b c ∧ SP19 (Inv (t + 1)) σ a b c ∧ SP20 (Inv (t + 1)) σ a b c ∧ SP21 (Inv (t + 1)) σ a b c ∧ SP22 (Inv (t + 1)) σ a b c ∧ SP23 (Inv (t + 1)) σ a b c ∧ SP24 (Inv (t + 1)) σ a b c
def SCR (Γ : CX) (b L : Nat) (xs : Nat → Int32) : Prop := match Γ with
  | (_, _, _, _, s, _, _, _, _, _, _, A, _) => va_X b L xs s s.heap ∧ b < s.heap.size ∧ ¬ A b
theorem g_sld {Γ : CX} {l : Launch} {cc : ByteArray} {nL : Nat} {own : String} {R : Room} {E : EV} {σ : ST} {pc : Nat} {lv : List (Nat × Value)} {st : List Value} (C : FX Γ l cc nL own R E) {b L : Nat} {xs : Nat → Int32} {i : Int32} (hX : SCR Γ b L xs) (hi : inB i L) (hd : decode cc pc = .ok (.iaload, 1)) (K : GW Γ nL E σ (pc + 1) lv (.int (xs i.toNatClampNeg) :: st)) : GW Γ nL E σ pc lv (.int i :: .ref b :: st) := by
  obtain ⟨p, l', e, R', s, m, args, below, meth, c, cs, A, Q⟩ := Γ
  intro H locs ls hP hD hS hl
  exact va_sld C.1 C.2.1 hX.1 hX.2.1 hX.2.2 hS hi hd (K H locs ls hP hD hS hl)
theorem g_slen {Γ : CX} {l : Launch} {cc : ByteArray} {nL : Nat} {own : String} {R : Room} {E : EV} {σ : ST} {pc : Nat} {lv : List (Nat × Value)} {st : List Value} (C : FX Γ l cc nL own R E) {b L : Nat} {xs : Nat → Int32} (hX : SCR Γ b L xs) (hd : decode cc pc = .ok (.arraylength, 1)) (K : GW Γ nL E σ (pc + 1) lv (.int (Int32.ofNat L) :: st)) : GW Γ nL E σ pc lv (.ref b :: st) := by
  obtain ⟨p, l', e, R', s, m, args, below, meth, c, cs, A, Q⟩ := Γ
  intro H locs ls hP hD hS hl
  exact va_slen C.1 C.2.1 hX.1 hX.2.1 hX.2.2 hS hd (K H locs ls hP hD hS hl)
theorem law_cond {L i : Nat} (hL : L ≤ 2048) (hi : i ≤ 4096) (h : ¬ Int32.ofNat L - 4 < nI i) : i + 4 ≤ L := by
  have h2 : nI i ≤ nI L - nI 4 := Int32.not_lt.mp h
  have h3 := Int32.le_iff_toInt_le.mp h2
  rw [pk_sub_toInt (by omega) (by omega), nI_toInt (by omega)] at h3
  omega
theorem law_in {L i j : Nat} (hL : L ≤ 2048) (hj : j < 4) (h : i + 4 ≤ L) : inB (nI i + nI j) L := by
  rw [nI_add]; exact vp_in_nI (by omega) (by omega)
set_option maxRecDepth 100000 in
set_option maxHeartbeats 16000000 in
theorem law_loop {Inv : Nat → ST → Prop} (hstep : STEP Inv) {Γ : CX} {l : Launch} {E : EV} {b L : Nat} {xs : Nat → Int32} (hL : L ≤ 2048) (C0 : FX Γ l cL_law 4 RL room_1 E) (hX0 : ∀ k j, SCR (sc Γ k j) b L xs) (hend : ∀ (σ : ST) (k j : Nat) (lv : List (Nat × Value)), k ≤ 600000 → j ≤ 7302250 → GW (sc Γ k j) 4 E σ 741 lv [.int 1]) :
    ∀ (n t : Nat) (σ : ST), L + 1 ≤ 4 * t + n → 4 * t ≤ L + 4 → Inv t σ → GW (sc Γ (40 + 8 * t) (2001 + 16 * t)) 4 E σ 18 [(0, .ref b), (1, .ref (E.2.1 0)), (2, .ref (E.2.1 20)), (3, .int (nI (4 * t)))] [] := by
  intro n
  induction n using Nat.strongRecOn with
  | _ n ih =>
    intro t σ h1 h2 hI
    have hC : ∀ k j, k ≤ 600000 → j ≤ 7302250 → FX (sc Γ k j) l cL_law 4 RL room_1 E := fun k j q1 q2 => C0.sc q1 q2
    have C := hC (40 + 8 * t) (2001 + 16 * t) (by omega) (by omega)
    have hX := hX0 (40 + 8 * t) (2001 + 16 * t)
    refine g_iload_n C 3 dL_law_18 rfl ?_
    refine g_aload_n C 0 dL_law_19 rfl ?_
    refine g_slen C hX dL_law_20 ?_
    refine g_iconst C dL_law_21 (v := 4) (by decide) ?_
    refine g_isub C dL_law_22 ?_
    refine g_icmp_gt (tgt := 740) C dL_law_23 (by decide) (fun c0 => ?_) (fun c0 => ?_)
    · refine g_iconst C dL_law_740 (v := 1) (by decide) ?_
      exact hend σ _ _ _ (by omega) (by omega)
    · have hlt := law_cond hL (by omega) c0
      have next : ∀ (k j : Nat) (σ' : ST), k ≤ 40 + 8 * (t + 1) → j ≤ 2001 + 16 * (t + 1) → Inv (t + 1) σ' → GW (sc Γ k j) 4 E σ' 734 [(0, .ref b), (1, .ref (E.2.1 0)), (2, .ref (E.2.1 20)), (3, .int (nI (4 * t)))] [] := by
        intro k j σ' q1 q2 hI'
        have C' := hC k j (by omega) (by omega)
        refine g_iinc C' 3 dL_law_734 rfl (show nI (4 * t) + nI 4 = nI (4 * (t + 1)) by rw [nI_add]; rfl) (by decide) [(3, .int (nI (4 * (t + 1)))), (0, .ref b), (1, .ref (E.2.1 0)), (2, .ref (E.2.1 20))] rfl ?_
        refine g_goto (tgt := 18) C' dL_law_737 (by decide) ?_
        refine g_widen (k' := 40 + 8 * (t + 1)) (n' := 2001 + 16 * (t + 1)) sc_CS q1 q2 ?_
        rw [sc_sc]
        exact g_lv [(0, .ref b), (1, .ref (E.2.1 0)), (2, .ref (E.2.1 20)), (3, .int (nI (4 * (t + 1))))] [1, 2, 3, 0] rfl (ih (n - 4) (by omega) (t + 1) σ' (by omega) (by omega) hI')
      have i0 : inB (nI (4 * t)) L := vp_in_nI (by omega) (by omega)
      have i1 : inB (nI (4 * t) + 1) L := law_in (j := 1) hL (by decide) hlt
      have i2 : inB (nI (4 * t) + 2) L := law_in (j := 2) hL (by decide) hlt
      have i3 : inB (nI (4 * t) + 3) L := law_in (j := 3) hL (by decide) hlt
      have HS := hstep.2 t σ (by omega) hI (xs (nI (4 * t) + 1).toNatClampNeg) (xs (nI (4 * t) + 2).toNatClampNeg) (xs (nI (4 * t) + 3).toNatClampNeg)
      refine g_aload_n C 0 dL_law_26 rfl ?_
      refine g_iload_n C 3 dL_law_27 rfl ?_
      refine g_sld C hX i0 dL_law_28 ?_
      refine g_bipush C dL_law_29 (v := 31) (by decide) ?_
      refine g_iand C dL_law_31 ?_
      obtain ⟨x, ex⟩ : ∃ x, xs (nI (4 * t)).toNatClampNeg &&& 31 = x := ⟨_, rfl⟩
      refine g_topi ex ?_
      by_cases c1 : x = 0
      · refine g_tabIn C 0 (tgt := 148) dL_law_32 c1 (by decide) (by decide) rfl (by decide) ?_
        obtain ⟨r, σ1, e1, σ2, e2, hI2⟩ := HS.1
        refine g_aload_n C 1 dL_law_148 rfl ?_
        refine g_aload_n C 0 dL_law_149 rfl ?_
        refine g_iload_n C 3 dL_law_150 rfl ?_
        refine g_iconst C dL_law_151 (v := 1) (by decide) ?_
        refine g_iadd C dL_law_152 ?_
        refine g_sld C hX i1 dL_law_153 ?_
        refine g_callV C 0 (c_X10_letter l E e1) cls_9 k_L_13 ⟨rfl, rfl, Nat.le_of_ble_eq_true rfl, Nat.le_of_ble_eq_true rfl⟩ (by decide) rfl rfl (Nat.le_of_ble_eq_true rfl) dL_law_154 _ rfl ?_
        refine g_aload_n C 2 dL_law_157 rfl ?_
        refine g_aload_n C 0 dL_law_158 rfl ?_
        refine g_iload_n C 3 dL_law_159 rfl ?_
        refine g_iconst C dL_law_160 (v := 1) (by decide) ?_
        refine g_iadd C dL_law_161 ?_
        refine g_sld C hX i1 dL_law_162 ?_
        refine g_callV C 20 (c_X11_letter l E e2) cls_10 k_L_17 ⟨rfl, rfl, Nat.le_of_ble_eq_true rfl, Nat.le_of_ble_eq_true rfl⟩ (by decide) rfl rfl (Nat.le_of_ble_eq_true rfl) dL_law_163 _ rfl ?_
        exact g_icmp_eq (tgt := 734) C dL_law_166 (by decide) (fun _ => by exact next _ _ _ (by omega) (by omega) hI2) (fun q => absurd rfl q)
      by_cases c2 : x = 1
      · refine g_tabIn C 1 (tgt := 171) dL_law_32 c2 (by decide) (by decide) rfl (by decide) ?_
        obtain ⟨r, σ1, e1, σ2, e2, hI2⟩ := HS.2.1
        refine g_aload_n C 1 dL_law_171 rfl ?_
        refine g_callV C 0 (c_X10_blank l E e1) cls_9 k_L_18 ⟨rfl, rfl, Nat.le_of_ble_eq_true rfl, Nat.le_of_ble_eq_true rfl⟩ (by decide) rfl rfl (Nat.le_of_ble_eq_true rfl) dL_law_172 _ rfl ?_
        refine g_aload_n C 2 dL_law_175 rfl ?_
        refine g_callV C 20 (c_X11_blank l E e2) cls_10 k_L_22 ⟨rfl, rfl, Nat.le_of_ble_eq_true rfl, Nat.le_of_ble_eq_true rfl⟩ (by decide) rfl rfl (Nat.le_of_ble_eq_true rfl) dL_law_176 _ rfl ?_
        exact g_icmp_eq (tgt := 734) C dL_law_179 (by decide) (fun _ => by exact next _ _ _ (by omega) (by omega) hI2) (fun q => absurd rfl q)
      by_cases c3 : x = 2
      · refine g_tabIn C 2 (tgt := 184) dL_law_32 c3 (by decide) (by decide) rfl (by decide) ?_
        obtain ⟨r, e1, e2, hI2⟩ := HS.2.2.1
        refine g_aload_n C 1 dL_law_184 rfl ?_
        refine g_callV C 0 (c_X10_fault l E e1) cls_9 k_L_23 ⟨rfl, rfl, Nat.le_of_ble_eq_true rfl, Nat.le_of_ble_eq_true rfl⟩ (by decide) rfl rfl (Nat.le_of_ble_eq_true rfl) dL_law_185 _ rfl ?_
        refine g_aload_n C 2 dL_law_188 rfl ?_
        refine g_callV C 20 (c_X11_fault l E e2) cls_10 k_L_26 ⟨rfl, rfl, Nat.le_of_ble_eq_true rfl, Nat.le_of_ble_eq_true rfl⟩ (by decide) rfl rfl (Nat.le_of_ble_eq_true rfl) dL_law_189 _ rfl ?_
        exact g_icmp_eq (tgt := 734) C dL_law_192 (by decide) (fun _ => by exact next _ _ _ (by omega) (by omega) hI2) (fun q => absurd rfl q)
      by_cases c4 : x = 3
      · refine g_tabIn C 3 (tgt := 197) dL_law_32 c4 (by decide) (by decide) rfl (by decide) ?_
        have hk := HS.2.2.2.1
        unfold SP3 at hk
        refine g_aload_n C 1 dL_law_197 rfl ?_
        refine g_callVA C 0 sc_CS (c_X10_city l E hk) cls_9 k_L_27 ⟨rfl, rfl, Nat.le_of_ble_eq_true rfl, Nat.le_of_ble_eq_true rfl⟩ (by show 40 + 8 * t + 8 ≤ 600000; omega) (by show 2001 + 16 * t + 16 ≤ 7302250; omega) (by decide) rfl rfl (Nat.le_of_ble_eq_true rfl) dL_law_198 _ rfl (fun r0 σ1 hp => ?_)
        obtain ⟨r, rfl, σ2, e2, hI2⟩ := hp
        rw [sc_sc]
        have C3 := hC (40 + 8 * t + 8) (2001 + 16 * t + 16) (by omega) (by omega)
        have hX3 := hX0 (40 + 8 * t + 8) (2001 + 16 * t + 16)
        refine g_aload_n C3 2 dL_law_201 rfl ?_
        refine g_callV C3 20 (c_X11_city l E e2) cls_10 k_L_30 ⟨rfl, rfl, Nat.le_of_ble_eq_true rfl, Nat.le_of_ble_eq_true rfl⟩ (by decide) rfl rfl (Nat.le_of_ble_eq_true rfl) dL_law_202 _ rfl ?_
        exact g_icmp_eq (tgt := 734) C3 dL_law_205 (by decide) (fun _ => by exact next _ _ _ (by omega) (by omega) hI2) (fun q => absurd rfl q)
      by_cases c5 : x = 4
      · refine g_tabIn C 4 (tgt := 210) dL_law_32 c5 (by decide) (by decide) rfl (by decide) ?_
        obtain ⟨r, σ1, e1, σ2, e2, hI2⟩ := HS.2.2.2.2.1
        refine g_aload_n C 1 dL_law_210 rfl ?_
        refine g_aload_n C 0 dL_law_211 rfl ?_
        refine g_iload_n C 3 dL_law_212 rfl ?_
        refine g_iconst C dL_law_213 (v := 1) (by decide) ?_
        refine g_iadd C dL_law_214 ?_
        refine g_sld C hX i1 dL_law_215 ?_
        refine g_callV C 0 (c_X10_tune l E e1) cls_9 k_L_31 ⟨rfl, rfl, Nat.le_of_ble_eq_true rfl, Nat.le_of_ble_eq_true rfl⟩ (by decide) rfl rfl (Nat.le_of_ble_eq_true rfl) dL_law_216 _ rfl ?_
        refine g_aload_n C 2 dL_law_219 rfl ?_
        refine g_aload_n C 0 dL_law_220 rfl ?_
        refine g_iload_n C 3 dL_law_221 rfl ?_
        refine g_iconst C dL_law_222 (v := 1) (by decide) ?_
        refine g_iadd C dL_law_223 ?_
        refine g_sld C hX i1 dL_law_224 ?_
        refine g_callV C 20 (c_X11_tune l E e2) cls_10 k_L_34 ⟨rfl, rfl, Nat.le_of_ble_eq_true rfl, Nat.le_of_ble_eq_true rfl⟩ (by decide) rfl rfl (Nat.le_of_ble_eq_true rfl) dL_law_225 _ rfl ?_
        exact g_icmp_eq (tgt := 734) C dL_law_228 (by decide) (fun _ => by exact next _ _ _ (by omega) (by omega) hI2) (fun q => absurd rfl q)
      by_cases c6 : x = 5
      · refine g_tabIn C 5 (tgt := 233) dL_law_32 c6 (by decide) (by decide) rfl (by decide) ?_
        obtain ⟨r, e1, e2, hI2⟩ := HS.2.2.2.2.2.1
        refine g_aload_n C 1 dL_law_233 rfl ?_
        refine g_aload_n C 0 dL_law_234 rfl ?_
        refine g_iload_n C 3 dL_law_235 rfl ?_
        refine g_iconst C dL_law_236 (v := 1) (by decide) ?_
        refine g_iadd C dL_law_237 ?_
        refine g_sld C hX i1 dL_law_238 ?_
        refine g_aload_n C 0 dL_law_239 rfl ?_
        refine g_iload_n C 3 dL_law_240 rfl ?_
        refine g_iconst C dL_law_241 (v := 2) (by decide) ?_
        refine g_iadd C dL_law_242 ?_
        refine g_sld C hX i2 dL_law_243 ?_
        refine g_callV C 0 (c_X10_told l E e1) cls_9 k_L_35 ⟨rfl, rfl, Nat.le_of_ble_eq_true rfl, Nat.le_of_ble_eq_true rfl⟩ (by decide) rfl rfl (Nat.le_of_ble_eq_true rfl) dL_law_244 _ rfl ?_
        refine g_aload_n C 2 dL_law_247 rfl ?_
        refine g_aload_n C 0 dL_law_248 rfl ?_
        refine g_iload_n C 3 dL_law_249 rfl ?_
        refine g_iconst C dL_law_250 (v := 1) (by decide) ?_
        refine g_iadd C dL_law_251 ?_
        refine g_sld C hX i1 dL_law_252 ?_
        refine g_aload_n C 0 dL_law_253 rfl ?_
        refine g_iload_n C 3 dL_law_254 rfl ?_
        refine g_iconst C dL_law_255 (v := 2) (by decide) ?_
        refine g_iadd C dL_law_256 ?_
        refine g_sld C hX i2 dL_law_257 ?_
        refine g_callV C 20 (c_X11_told l E e2) cls_10 k_L_39 ⟨rfl, rfl, Nat.le_of_ble_eq_true rfl, Nat.le_of_ble_eq_true rfl⟩ (by decide) rfl rfl (Nat.le_of_ble_eq_true rfl) dL_law_258 _ rfl ?_
        exact g_icmp_eq (tgt := 734) C dL_law_261 (by decide) (fun _ => by exact next _ _ _ (by omega) (by omega) hI2) (fun q => absurd rfl q)
      by_cases c7 : x = 6
      · refine g_tabIn C 6 (tgt := 266) dL_law_32 c7 (by decide) (by decide) rfl (by decide) ?_
        obtain ⟨r, e1, σ2, e2, hI2⟩ := HS.2.2.2.2.2.2.1
        refine g_aload_n C 1 dL_law_266 rfl ?_
        refine g_aload_n C 0 dL_law_267 rfl ?_
        refine g_iload_n C 3 dL_law_268 rfl ?_
        refine g_iconst C dL_law_269 (v := 1) (by decide) ?_
        refine g_iadd C dL_law_270 ?_
        refine g_sld C hX i1 dL_law_271 ?_
        refine g_aload_n C 0 dL_law_272 rfl ?_
        refine g_iload_n C 3 dL_law_273 rfl ?_
        refine g_iconst C dL_law_274 (v := 2) (by decide) ?_
        refine g_iadd C dL_law_275 ?_
        refine g_sld C hX i2 dL_law_276 ?_
        refine g_callV C 0 (c_X10_street l E e1) cls_9 k_L_40 ⟨rfl, rfl, Nat.le_of_ble_eq_true rfl, Nat.le_of_ble_eq_true rfl⟩ (by decide) rfl rfl (Nat.le_of_ble_eq_true rfl) dL_law_277 _ rfl ?_
        refine g_aload_n C 2 dL_law_280 rfl ?_
        refine g_aload_n C 0 dL_law_281 rfl ?_
        refine g_iload_n C 3 dL_law_282 rfl ?_
        refine g_iconst C dL_law_283 (v := 1) (by decide) ?_
        refine g_iadd C dL_law_284 ?_
        refine g_sld C hX i1 dL_law_285 ?_
        refine g_aload_n C 0 dL_law_286 rfl ?_
        refine g_iload_n C 3 dL_law_287 rfl ?_
        refine g_iconst C dL_law_288 (v := 2) (by decide) ?_
        refine g_iadd C dL_law_289 ?_
        refine g_sld C hX i2 dL_law_290 ?_
        refine g_callV C 20 (c_X11_street l E e2) cls_10 k_L_43 ⟨rfl, rfl, Nat.le_of_ble_eq_true rfl, Nat.le_of_ble_eq_true rfl⟩ (by decide) rfl rfl (Nat.le_of_ble_eq_true rfl) dL_law_291 _ rfl ?_
        exact g_icmp_eq (tgt := 734) C dL_law_294 (by decide) (fun _ => by exact next _ _ _ (by omega) (by omega) hI2) (fun q => absurd rfl q)
      by_cases c8 : x = 7
      · refine g_tabIn C 7 (tgt := 299) dL_law_32 c8 (by decide) (by decide) rfl (by decide) ?_
        obtain ⟨r, e1, e2, hI2⟩ := HS.2.2.2.2.2.2.2.1
        refine g_aload_n C 1 dL_law_299 rfl ?_
        refine g_aload_n C 0 dL_law_300 rfl ?_
        refine g_iload_n C 3 dL_law_301 rfl ?_
        refine g_iconst C dL_law_302 (v := 1) (by decide) ?_
        refine g_iadd C dL_law_303 ?_
        refine g_sld C hX i1 dL_law_304 ?_
        refine g_aload_n C 0 dL_law_305 rfl ?_
        refine g_iload_n C 3 dL_law_306 rfl ?_
        refine g_iconst C dL_law_307 (v := 2) (by decide) ?_
        refine g_iadd C dL_law_308 ?_
        refine g_sld C hX i2 dL_law_309 ?_
        refine g_callV C 0 (c_X10_as l E e1) cls_9 k_L_44 ⟨rfl, rfl, Nat.le_of_ble_eq_true rfl, Nat.le_of_ble_eq_true rfl⟩ (by decide) rfl rfl (Nat.le_of_ble_eq_true rfl) dL_law_310 _ rfl ?_
        refine g_aload_n C 2 dL_law_313 rfl ?_
        refine g_aload_n C 0 dL_law_314 rfl ?_
        refine g_iload_n C 3 dL_law_315 rfl ?_
        refine g_iconst C dL_law_316 (v := 1) (by decide) ?_
        refine g_iadd C dL_law_317 ?_
        refine g_sld C hX i1 dL_law_318 ?_
        refine g_aload_n C 0 dL_law_319 rfl ?_
        refine g_iload_n C 3 dL_law_320 rfl ?_
        refine g_iconst C dL_law_321 (v := 2) (by decide) ?_
        refine g_iadd C dL_law_322 ?_
        refine g_sld C hX i2 dL_law_323 ?_
        refine g_callV C 20 (c_X11_as l E e2) cls_10 k_L_47 ⟨rfl, rfl, Nat.le_of_ble_eq_true rfl, Nat.le_of_ble_eq_true rfl⟩ (by decide) rfl rfl (Nat.le_of_ble_eq_true rfl) dL_law_324 _ rfl ?_
        exact g_icmp_eq (tgt := 734) C dL_law_327 (by decide) (fun _ => by exact next _ _ _ (by omega) (by omega) hI2) (fun q => absurd rfl q)
      by_cases c9 : x = 8
      · refine g_tabIn C 8 (tgt := 332) dL_law_32 c9 (by decide) (by decide) rfl (by decide) ?_
        obtain ⟨r, e1, σ2, e2, hI2⟩ := HS.2.2.2.2.2.2.2.2.1
        refine g_aload_n C 1 dL_law_332 rfl ?_
        refine g_aload_n C 0 dL_law_333 rfl ?_
        refine g_iload_n C 3 dL_law_334 rfl ?_
        refine g_iconst C dL_law_335 (v := 1) (by decide) ?_
        refine g_iadd C dL_law_336 ?_
        refine g_sld C hX i1 dL_law_337 ?_
        refine g_aload_n C 0 dL_law_338 rfl ?_
        refine g_iload_n C 3 dL_law_339 rfl ?_
        refine g_iconst C dL_law_340 (v := 2) (by decide) ?_
        refine g_iadd C dL_law_341 ?_
        refine g_sld C hX i2 dL_law_342 ?_
        refine g_callV C 0 (c_X10_comes l E e1) cls_9 k_L_48 ⟨rfl, rfl, Nat.le_of_ble_eq_true rfl, Nat.le_of_ble_eq_true rfl⟩ (by decide) rfl rfl (Nat.le_of_ble_eq_true rfl) dL_law_343 _ rfl ?_
        refine g_aload_n C 2 dL_law_346 rfl ?_
        refine g_aload_n C 0 dL_law_347 rfl ?_
        refine g_iload_n C 3 dL_law_348 rfl ?_
        refine g_iconst C dL_law_349 (v := 1) (by decide) ?_
        refine g_iadd C dL_law_350 ?_
        refine g_sld C hX i1 dL_law_351 ?_
        refine g_aload_n C 0 dL_law_352 rfl ?_
        refine g_iload_n C 3 dL_law_353 rfl ?_
        refine g_iconst C dL_law_354 (v := 2) (by decide) ?_
        refine g_iadd C dL_law_355 ?_
        refine g_sld C hX i2 dL_law_356 ?_
        refine g_callV C 20 (c_X11_comes l E e2) cls_10 k_L_51 ⟨rfl, rfl, Nat.le_of_ble_eq_true rfl, Nat.le_of_ble_eq_true rfl⟩ (by decide) rfl rfl (Nat.le_of_ble_eq_true rfl) dL_law_357 _ rfl ?_
        exact g_icmp_eq (tgt := 734) C dL_law_360 (by decide) (fun _ => by exact next _ _ _ (by omega) (by omega) hI2) (fun q => absurd rfl q)
      by_cases c10 : x = 9
      · refine g_tabIn C 9 (tgt := 365) dL_law_32 c10 (by decide) (by decide) rfl (by decide) ?_
        obtain ⟨r, σ1, e1, σ2, e2, hI2⟩ := HS.2.2.2.2.2.2.2.2.2.1
        refine g_aload_n C 1 dL_law_365 rfl ?_
        refine g_aload_n C 0 dL_law_366 rfl ?_
        refine g_iload_n C 3 dL_law_367 rfl ?_
        refine g_iconst C dL_law_368 (v := 1) (by decide) ?_
        refine g_iadd C dL_law_369 ?_
        refine g_sld C hX i1 dL_law_370 ?_
        refine g_callV C 0 (c_X10_walk l E e1) cls_9 k_L_52 ⟨rfl, rfl, Nat.le_of_ble_eq_true rfl, Nat.le_of_ble_eq_true rfl⟩ (by decide) rfl rfl (Nat.le_of_ble_eq_true rfl) dL_law_371 _ rfl ?_
        refine g_aload_n C 2 dL_law_374 rfl ?_
        refine g_aload_n C 0 dL_law_375 rfl ?_
        refine g_iload_n C 3 dL_law_376 rfl ?_
        refine g_iconst C dL_law_377 (v := 1) (by decide) ?_
        refine g_iadd C dL_law_378 ?_
        refine g_sld C hX i1 dL_law_379 ?_
        refine g_callV C 20 (c_X11_walk l E e2) cls_10 k_L_55 ⟨rfl, rfl, Nat.le_of_ble_eq_true rfl, Nat.le_of_ble_eq_true rfl⟩ (by decide) rfl rfl (Nat.le_of_ble_eq_true rfl) dL_law_380 _ rfl ?_
        exact g_icmp_eq (tgt := 734) C dL_law_383 (by decide) (fun _ => by exact next _ _ _ (by omega) (by omega) hI2) (fun q => absurd rfl q)
      by_cases c11 : x = 10
      · refine g_tabIn C 10 (tgt := 388) dL_law_32 c11 (by decide) (by decide) rfl (by decide) ?_
        obtain ⟨r, σ1, e1, σ2, e2, hI2⟩ := HS.2.2.2.2.2.2.2.2.2.2.1
        refine g_aload_n C 1 dL_law_388 rfl ?_
        refine g_aload_n C 0 dL_law_389 rfl ?_
        refine g_iload_n C 3 dL_law_390 rfl ?_
        refine g_iconst C dL_law_391 (v := 1) (by decide) ?_
        refine g_iadd C dL_law_392 ?_
        refine g_sld C hX i1 dL_law_393 ?_
        refine g_callV C 0 (c_X10_stand l E e1) cls_9 k_L_56 ⟨rfl, rfl, Nat.le_of_ble_eq_true rfl, Nat.le_of_ble_eq_true rfl⟩ (by decide) rfl rfl (Nat.le_of_ble_eq_true rfl) dL_law_394 _ rfl ?_
        refine g_aload_n C 2 dL_law_397 rfl ?_
        refine g_aload_n C 0 dL_law_398 rfl ?_
        refine g_iload_n C 3 dL_law_399 rfl ?_
        refine g_iconst C dL_law_400 (v := 1) (by decide) ?_
        refine g_iadd C dL_law_401 ?_
        refine g_sld C hX i1 dL_law_402 ?_
        refine g_callV C 20 (c_X11_stand l E e2) cls_10 k_L_59 ⟨rfl, rfl, Nat.le_of_ble_eq_true rfl, Nat.le_of_ble_eq_true rfl⟩ (by decide) rfl rfl (Nat.le_of_ble_eq_true rfl) dL_law_403 _ rfl ?_
        exact g_icmp_eq (tgt := 734) C dL_law_406 (by decide) (fun _ => by exact next _ _ _ (by omega) (by omega) hI2) (fun q => absurd rfl q)
      by_cases c12 : x = 11
      · refine g_tabIn C 11 (tgt := 411) dL_law_32 c12 (by decide) (by decide) rfl (by decide) ?_
        obtain ⟨r, σ1, e1, σ2, e2, hI2⟩ := HS.2.2.2.2.2.2.2.2.2.2.2.1
        refine g_aload_n C 1 dL_law_411 rfl ?_
        refine g_callV C 0 (c_X10_dusk l E e1) cls_9 k_L_60 ⟨rfl, rfl, Nat.le_of_ble_eq_true rfl, Nat.le_of_ble_eq_true rfl⟩ (by decide) rfl rfl (Nat.le_of_ble_eq_true rfl) dL_law_412 _ rfl ?_
        refine g_aload_n C 2 dL_law_415 rfl ?_
        refine g_callV C 20 (c_X11_dusk l E e2) cls_10 k_L_63 ⟨rfl, rfl, Nat.le_of_ble_eq_true rfl, Nat.le_of_ble_eq_true rfl⟩ (by decide) rfl rfl (Nat.le_of_ble_eq_true rfl) dL_law_416 _ rfl ?_
        exact g_icmp_eq (tgt := 734) C dL_law_419 (by decide) (fun _ => by exact next _ _ _ (by omega) (by omega) hI2) (fun q => absurd rfl q)
      by_cases c13 : x = 12
      · refine g_tabIn C 12 (tgt := 424) dL_law_32 c13 (by decide) (by decide) rfl (by decide) ?_
        obtain ⟨r, σ1, e1, σ2, e2, hI2⟩ := HS.2.2.2.2.2.2.2.2.2.2.2.2.1
        refine g_aload_n C 1 dL_law_424 rfl ?_
        refine g_aload_n C 0 dL_law_425 rfl ?_
        refine g_iload_n C 3 dL_law_426 rfl ?_
        refine g_iconst C dL_law_427 (v := 1) (by decide) ?_
        refine g_iadd C dL_law_428 ?_
        refine g_sld C hX i1 dL_law_429 ?_
        refine g_aload_n C 0 dL_law_430 rfl ?_
        refine g_iload_n C 3 dL_law_431 rfl ?_
        refine g_iconst C dL_law_432 (v := 2) (by decide) ?_
        refine g_iadd C dL_law_433 ?_
        refine g_sld C hX i2 dL_law_434 ?_
        refine g_aload_n C 0 dL_law_435 rfl ?_
        refine g_iload_n C 3 dL_law_436 rfl ?_
        refine g_iconst C dL_law_437 (v := 3) (by decide) ?_
        refine g_iadd C dL_law_438 ?_
        refine g_sld C hX i3 dL_law_439 ?_
        refine g_callV C 0 (c_X10_sing l E e1) cls_9 k_L_64 ⟨rfl, rfl, Nat.le_of_ble_eq_true rfl, Nat.le_of_ble_eq_true rfl⟩ (by decide) rfl rfl (Nat.le_of_ble_eq_true rfl) dL_law_440 _ rfl ?_
        refine g_aload_n C 2 dL_law_443 rfl ?_
        refine g_aload_n C 0 dL_law_444 rfl ?_
        refine g_iload_n C 3 dL_law_445 rfl ?_
        refine g_iconst C dL_law_446 (v := 1) (by decide) ?_
        refine g_iadd C dL_law_447 ?_
        refine g_sld C hX i1 dL_law_448 ?_
        refine g_aload_n C 0 dL_law_449 rfl ?_
        refine g_iload_n C 3 dL_law_450 rfl ?_
        refine g_iconst C dL_law_451 (v := 2) (by decide) ?_
        refine g_iadd C dL_law_452 ?_
        refine g_sld C hX i2 dL_law_453 ?_
        refine g_aload_n C 0 dL_law_454 rfl ?_
        refine g_iload_n C 3 dL_law_455 rfl ?_
        refine g_iconst C dL_law_456 (v := 3) (by decide) ?_
        refine g_iadd C dL_law_457 ?_
        refine g_sld C hX i3 dL_law_458 ?_
        refine g_callV C 20 (c_X11_sing l E e2) cls_10 k_L_68 ⟨rfl, rfl, Nat.le_of_ble_eq_true rfl, Nat.le_of_ble_eq_true rfl⟩ (by decide) rfl rfl (Nat.le_of_ble_eq_true rfl) dL_law_459 _ rfl ?_
        exact g_icmp_eq (tgt := 734) C dL_law_462 (by decide) (fun _ => by exact next _ _ _ (by omega) (by omega) hI2) (fun q => absurd rfl q)
      by_cases c14 : x = 13
      · refine g_tabIn C 13 (tgt := 467) dL_law_32 c14 (by decide) (by decide) rfl (by decide) ?_
        obtain ⟨r, σ1, e1, σ2, e2, hI2⟩ := HS.2.2.2.2.2.2.2.2.2.2.2.2.2.1
        refine g_aload_n C 1 dL_law_467 rfl ?_
        refine g_aload_n C 0 dL_law_468 rfl ?_
        refine g_iload_n C 3 dL_law_469 rfl ?_
        refine g_iconst C dL_law_470 (v := 1) (by decide) ?_
        refine g_iadd C dL_law_471 ?_
        refine g_sld C hX i1 dL_law_472 ?_
        refine g_aload_n C 0 dL_law_473 rfl ?_
        refine g_iload_n C 3 dL_law_474 rfl ?_
        refine g_iconst C dL_law_475 (v := 2) (by decide) ?_
        refine g_iadd C dL_law_476 ?_
        refine g_sld C hX i2 dL_law_477 ?_
        refine g_callV C 0 (c_X10_raise l E e1) cls_9 k_L_69 ⟨rfl, rfl, Nat.le_of_ble_eq_true rfl, Nat.le_of_ble_eq_true rfl⟩ (by decide) rfl rfl (Nat.le_of_ble_eq_true rfl) dL_law_478 _ rfl ?_
        refine g_aload_n C 2 dL_law_481 rfl ?_
        refine g_aload_n C 0 dL_law_482 rfl ?_
        refine g_iload_n C 3 dL_law_483 rfl ?_
        refine g_iconst C dL_law_484 (v := 1) (by decide) ?_
        refine g_iadd C dL_law_485 ?_
        refine g_sld C hX i1 dL_law_486 ?_
        refine g_aload_n C 0 dL_law_487 rfl ?_
        refine g_iload_n C 3 dL_law_488 rfl ?_
        refine g_iconst C dL_law_489 (v := 2) (by decide) ?_
        refine g_iadd C dL_law_490 ?_
        refine g_sld C hX i2 dL_law_491 ?_
        refine g_callV C 20 (c_X11_raise l E e2) cls_10 k_L_72 ⟨rfl, rfl, Nat.le_of_ble_eq_true rfl, Nat.le_of_ble_eq_true rfl⟩ (by decide) rfl rfl (Nat.le_of_ble_eq_true rfl) dL_law_492 _ rfl ?_
        exact g_icmp_eq (tgt := 734) C dL_law_495 (by decide) (fun _ => by exact next _ _ _ (by omega) (by omega) hI2) (fun q => absurd rfl q)
      by_cases c15 : x = 14
      · refine g_tabIn C 14 (tgt := 500) dL_law_32 c15 (by decide) (by decide) rfl (by decide) ?_
        obtain ⟨r, σ1, e1, σ2, e2, hI2⟩ := HS.2.2.2.2.2.2.2.2.2.2.2.2.2.2.1
        refine g_aload_n C 1 dL_law_500 rfl ?_
        refine g_aload_n C 0 dL_law_501 rfl ?_
        refine g_iload_n C 3 dL_law_502 rfl ?_
        refine g_iconst C dL_law_503 (v := 1) (by decide) ?_
        refine g_iadd C dL_law_504 ?_
        refine g_sld C hX i1 dL_law_505 ?_
        refine g_callV C 0 (c_X10_way l E e1) cls_9 k_L_73 ⟨rfl, rfl, Nat.le_of_ble_eq_true rfl, Nat.le_of_ble_eq_true rfl⟩ (by decide) rfl rfl (Nat.le_of_ble_eq_true rfl) dL_law_506 _ rfl ?_
        refine g_aload_n C 2 dL_law_509 rfl ?_
        refine g_aload_n C 0 dL_law_510 rfl ?_
        refine g_iload_n C 3 dL_law_511 rfl ?_
        refine g_iconst C dL_law_512 (v := 1) (by decide) ?_
        refine g_iadd C dL_law_513 ?_
        refine g_sld C hX i1 dL_law_514 ?_
        refine g_callV C 20 (c_X11_way l E e2) cls_10 k_L_76 ⟨rfl, rfl, Nat.le_of_ble_eq_true rfl, Nat.le_of_ble_eq_true rfl⟩ (by decide) rfl rfl (Nat.le_of_ble_eq_true rfl) dL_law_515 _ rfl ?_
        exact g_icmp_eq (tgt := 734) C dL_law_518 (by decide) (fun _ => by exact next _ _ _ (by omega) (by omega) hI2) (fun q => absurd rfl q)
      by_cases c16 : x = 15
      · refine g_tabIn C 15 (tgt := 523) dL_law_32 c16 (by decide) (by decide) rfl (by decide) ?_
        obtain ⟨r, σ1, e1, σ2, e2, hI2⟩ := HS.2.2.2.2.2.2.2.2.2.2.2.2.2.2.2.1
        refine g_aload_n C 1 dL_law_523 rfl ?_
        refine g_aload_n C 0 dL_law_524 rfl ?_
        refine g_iload_n C 3 dL_law_525 rfl ?_
        refine g_iconst C dL_law_526 (v := 1) (by decide) ?_
        refine g_iadd C dL_law_527 ?_
        refine g_sld C hX i1 dL_law_528 ?_
        refine g_callV C 0 (c_X10_become l E e1) cls_9 k_L_77 ⟨rfl, rfl, Nat.le_of_ble_eq_true rfl, Nat.le_of_ble_eq_true rfl⟩ (by decide) rfl rfl (Nat.le_of_ble_eq_true rfl) dL_law_529 _ rfl ?_
        refine g_aload_n C 2 dL_law_532 rfl ?_
        refine g_aload_n C 0 dL_law_533 rfl ?_
        refine g_iload_n C 3 dL_law_534 rfl ?_
        refine g_iconst C dL_law_535 (v := 1) (by decide) ?_
        refine g_iadd C dL_law_536 ?_
        refine g_sld C hX i1 dL_law_537 ?_
        refine g_callV C 20 (c_X11_become l E e2) cls_10 k_L_80 ⟨rfl, rfl, Nat.le_of_ble_eq_true rfl, Nat.le_of_ble_eq_true rfl⟩ (by decide) rfl rfl (Nat.le_of_ble_eq_true rfl) dL_law_538 _ rfl ?_
        exact g_icmp_eq (tgt := 734) C dL_law_541 (by decide) (fun _ => by exact next _ _ _ (by omega) (by omega) hI2) (fun q => absurd rfl q)
      by_cases c17 : x = 16
      · refine g_tabIn C 16 (tgt := 546) dL_law_32 c17 (by decide) (by decide) rfl (by decide) ?_
        obtain ⟨r, e1, e2, hI2⟩ := HS.2.2.2.2.2.2.2.2.2.2.2.2.2.2.2.2.1
        refine g_aload_n C 1 dL_law_546 rfl ?_
        refine g_callV C 0 (c_X10_apart l E e1) cls_9 k_L_81 ⟨rfl, rfl, Nat.le_of_ble_eq_true rfl, Nat.le_of_ble_eq_true rfl⟩ (by decide) rfl rfl (Nat.le_of_ble_eq_true rfl) dL_law_547 _ rfl ?_
        refine g_aload_n C 2 dL_law_550 rfl ?_
        refine g_callV C 20 (c_X11_apart l E e2) cls_10 k_L_84 ⟨rfl, rfl, Nat.le_of_ble_eq_true rfl, Nat.le_of_ble_eq_true rfl⟩ (by decide) rfl rfl (Nat.le_of_ble_eq_true rfl) dL_law_551 _ rfl ?_
        exact g_icmp_eq (tgt := 734) C dL_law_554 (by decide) (fun _ => by exact next _ _ _ (by omega) (by omega) hI2) (fun q => absurd rfl q)
      by_cases c18 : x = 17
      · refine g_tabIn C 17 (tgt := 559) dL_law_32 c18 (by decide) (by decide) rfl (by decide) ?_
        obtain ⟨r, e1, σ2, e2, hI2⟩ := HS.2.2.2.2.2.2.2.2.2.2.2.2.2.2.2.2.2.1
        refine g_aload_n C 1 dL_law_559 rfl ?_
        refine g_callV C 0 (c_X10_near l E e1) cls_9 k_L_85 ⟨rfl, rfl, Nat.le_of_ble_eq_true rfl, Nat.le_of_ble_eq_true rfl⟩ (by decide) rfl rfl (Nat.le_of_ble_eq_true rfl) dL_law_560 _ rfl ?_
        refine g_aload_n C 2 dL_law_563 rfl ?_
        refine g_callV C 20 (c_X11_near l E e2) cls_10 k_L_88 ⟨rfl, rfl, Nat.le_of_ble_eq_true rfl, Nat.le_of_ble_eq_true rfl⟩ (by decide) rfl rfl (Nat.le_of_ble_eq_true rfl) dL_law_564 _ rfl ?_
        exact g_icmp_eq (tgt := 734) C dL_law_567 (by decide) (fun _ => by exact next _ _ _ (by omega) (by omega) hI2) (fun q => absurd rfl q)
      by_cases c19 : x = 18
      · refine g_tabIn C 18 (tgt := 572) dL_law_32 c19 (by decide) (by decide) rfl (by decide) ?_
        obtain ⟨r, σ1, e1, σ2, e2, hI2⟩ := HS.2.2.2.2.2.2.2.2.2.2.2.2.2.2.2.2.2.2.1
        refine g_aload_n C 1 dL_law_572 rfl ?_
        refine g_aload_n C 0 dL_law_573 rfl ?_
        refine g_iload_n C 3 dL_law_574 rfl ?_
        refine g_iconst C dL_law_575 (v := 1) (by decide) ?_
        refine g_iadd C dL_law_576 ?_
        refine g_sld C hX i1 dL_law_577 ?_
        refine g_aload_n C 0 dL_law_578 rfl ?_
        refine g_iload_n C 3 dL_law_579 rfl ?_
        refine g_iconst C dL_law_580 (v := 2) (by decide) ?_
        refine g_iadd C dL_law_581 ?_
        refine g_sld C hX i2 dL_law_582 ?_
        refine g_aload_n C 0 dL_law_583 rfl ?_
        refine g_iload_n C 3 dL_law_584 rfl ?_
        refine g_iconst C dL_law_585 (v := 3) (by decide) ?_
        refine g_iadd C dL_law_586 ?_
        refine g_sld C hX i3 dL_law_587 ?_
        refine g_callV C 0 (c_X10_see l E e1) cls_9 k_L_89 ⟨rfl, rfl, Nat.le_of_ble_eq_true rfl, Nat.le_of_ble_eq_true rfl⟩ (by decide) rfl rfl (Nat.le_of_ble_eq_true rfl) dL_law_588 _ rfl ?_
        refine g_aload_n C 2 dL_law_591 rfl ?_
        refine g_aload_n C 0 dL_law_592 rfl ?_
        refine g_iload_n C 3 dL_law_593 rfl ?_
        refine g_iconst C dL_law_594 (v := 1) (by decide) ?_
        refine g_iadd C dL_law_595 ?_
        refine g_sld C hX i1 dL_law_596 ?_
        refine g_aload_n C 0 dL_law_597 rfl ?_
        refine g_iload_n C 3 dL_law_598 rfl ?_
        refine g_iconst C dL_law_599 (v := 2) (by decide) ?_
        refine g_iadd C dL_law_600 ?_
        refine g_sld C hX i2 dL_law_601 ?_
        refine g_aload_n C 0 dL_law_602 rfl ?_
        refine g_iload_n C 3 dL_law_603 rfl ?_
        refine g_iconst C dL_law_604 (v := 3) (by decide) ?_
        refine g_iadd C dL_law_605 ?_
        refine g_sld C hX i3 dL_law_606 ?_
        refine g_callV C 20 (c_X11_see l E e2) cls_10 k_L_92 ⟨rfl, rfl, Nat.le_of_ble_eq_true rfl, Nat.le_of_ble_eq_true rfl⟩ (by decide) rfl rfl (Nat.le_of_ble_eq_true rfl) dL_law_607 _ rfl ?_
        exact g_icmp_eq (tgt := 734) C dL_law_610 (by decide) (fun _ => by exact next _ _ _ (by omega) (by omega) hI2) (fun q => absurd rfl q)
      by_cases c20 : x = 19
      · refine g_tabIn C 19 (tgt := 615) dL_law_32 c20 (by decide) (by decide) rfl (by decide) ?_
        obtain ⟨r, σ1, e1, σ2, e2, hI2⟩ := HS.2.2.2.2.2.2.2.2.2.2.2.2.2.2.2.2.2.2.2.1
        refine g_aload_n C 1 dL_law_615 rfl ?_
        refine g_callV C 0 (c_X10_forget l E e1) cls_9 k_L_93 ⟨rfl, rfl, Nat.le_of_ble_eq_true rfl, Nat.le_of_ble_eq_true rfl⟩ (by decide) rfl rfl (Nat.le_of_ble_eq_true rfl) dL_law_616 _ rfl ?_
        refine g_aload_n C 2 dL_law_619 rfl ?_
        refine g_callV C 20 (c_X11_forget l E e2) cls_10 k_L_96 ⟨rfl, rfl, Nat.le_of_ble_eq_true rfl, Nat.le_of_ble_eq_true rfl⟩ (by decide) rfl rfl (Nat.le_of_ble_eq_true rfl) dL_law_620 _ rfl ?_
        exact g_icmp_eq (tgt := 734) C dL_law_623 (by decide) (fun _ => by exact next _ _ _ (by omega) (by omega) hI2) (fun q => absurd rfl q)
      by_cases c21 : x = 20
      · refine g_tabIn C 20 (tgt := 628) dL_law_32 c21 (by decide) (by decide) rfl (by decide) ?_
        obtain ⟨r, σ1, e1, σ2, e2, hI2⟩ := HS.2.2.2.2.2.2.2.2.2.2.2.2.2.2.2.2.2.2.2.2.1
        refine g_aload_n C 1 dL_law_628 rfl ?_
        refine g_aload_n C 0 dL_law_629 rfl ?_
        refine g_iload_n C 3 dL_law_630 rfl ?_
        refine g_iconst C dL_law_631 (v := 1) (by decide) ?_
        refine g_iadd C dL_law_632 ?_
        refine g_sld C hX i1 dL_law_633 ?_
        refine g_aload_n C 0 dL_law_634 rfl ?_
        refine g_iload_n C 3 dL_law_635 rfl ?_
        refine g_iconst C dL_law_636 (v := 2) (by decide) ?_
        refine g_iadd C dL_law_637 ?_
        refine g_sld C hX i2 dL_law_638 ?_
        refine g_aload_n C 0 dL_law_639 rfl ?_
        refine g_iload_n C 3 dL_law_640 rfl ?_
        refine g_iconst C dL_law_641 (v := 3) (by decide) ?_
        refine g_iadd C dL_law_642 ?_
        refine g_sld C hX i3 dL_law_643 ?_
        refine g_callV C 0 (c_X10_wander l E e1) cls_9 k_L_97 ⟨rfl, rfl, Nat.le_of_ble_eq_true rfl, Nat.le_of_ble_eq_true rfl⟩ (by decide) rfl rfl (Nat.le_of_ble_eq_true rfl) dL_law_644 _ rfl ?_
        refine g_aload_n C 2 dL_law_647 rfl ?_
        refine g_aload_n C 0 dL_law_648 rfl ?_
        refine g_iload_n C 3 dL_law_649 rfl ?_
        refine g_iconst C dL_law_650 (v := 1) (by decide) ?_
        refine g_iadd C dL_law_651 ?_
        refine g_sld C hX i1 dL_law_652 ?_
        refine g_aload_n C 0 dL_law_653 rfl ?_
        refine g_iload_n C 3 dL_law_654 rfl ?_
        refine g_iconst C dL_law_655 (v := 2) (by decide) ?_
        refine g_iadd C dL_law_656 ?_
        refine g_sld C hX i2 dL_law_657 ?_
        refine g_aload_n C 0 dL_law_658 rfl ?_
        refine g_iload_n C 3 dL_law_659 rfl ?_
        refine g_iconst C dL_law_660 (v := 3) (by decide) ?_
        refine g_iadd C dL_law_661 ?_
        refine g_sld C hX i3 dL_law_662 ?_
        refine g_callV C 20 (c_X11_wander l E e2) cls_10 k_L_100 ⟨rfl, rfl, Nat.le_of_ble_eq_true rfl, Nat.le_of_ble_eq_true rfl⟩ (by decide) rfl rfl (Nat.le_of_ble_eq_true rfl) dL_law_663 _ rfl ?_
        exact g_icmp_eq (tgt := 734) C dL_law_666 (by decide) (fun _ => by exact next _ _ _ (by omega) (by omega) hI2) (fun q => absurd rfl q)
      by_cases c22 : x = 21
      · refine g_tabIn C 21 (tgt := 671) dL_law_32 c22 (by decide) (by decide) rfl (by decide) ?_
        obtain ⟨r, σ1, e1, σ2, e2, hI2⟩ := HS.2.2.2.2.2.2.2.2.2.2.2.2.2.2.2.2.2.2.2.2.2.1
        refine g_aload_n C 1 dL_law_671 rfl ?_
        refine g_callV C 0 (c_X10_image l E e1) cls_9 k_L_101 ⟨rfl, rfl, Nat.le_of_ble_eq_true rfl, Nat.le_of_ble_eq_true rfl⟩ (by decide) rfl rfl (Nat.le_of_ble_eq_true rfl) dL_law_672 _ rfl ?_
        refine g_aload_n C 2 dL_law_675 rfl ?_
        refine g_callV C 20 (c_X11_image l E e2) cls_10 k_L_104 ⟨rfl, rfl, Nat.le_of_ble_eq_true rfl, Nat.le_of_ble_eq_true rfl⟩ (by decide) rfl rfl (Nat.le_of_ble_eq_true rfl) dL_law_676 _ rfl ?_
        exact g_icmp_eq (tgt := 734) C dL_law_679 (by decide) (fun _ => by exact next _ _ _ (by omega) (by omega) hI2) (fun q => absurd rfl q)
      by_cases c23 : x = 22
      · refine g_tabIn C 22 (tgt := 684) dL_law_32 c23 (by decide) (by decide) rfl (by decide) ?_
        obtain ⟨r, σ1, e1, σ2, e2, hI2⟩ := HS.2.2.2.2.2.2.2.2.2.2.2.2.2.2.2.2.2.2.2.2.2.2.1
        refine g_aload_n C 1 dL_law_684 rfl ?_
        refine g_callV C 0 (c_X10_restore l E e1) cls_9 k_L_105 ⟨rfl, rfl, Nat.le_of_ble_eq_true rfl, Nat.le_of_ble_eq_true rfl⟩ (by decide) rfl rfl (Nat.le_of_ble_eq_true rfl) dL_law_685 _ rfl ?_
        refine g_aload_n C 2 dL_law_688 rfl ?_
        refine g_callV C 20 (c_X11_restore l E e2) cls_10 k_L_108 ⟨rfl, rfl, Nat.le_of_ble_eq_true rfl, Nat.le_of_ble_eq_true rfl⟩ (by decide) rfl rfl (Nat.le_of_ble_eq_true rfl) dL_law_689 _ rfl ?_
        exact g_icmp_eq (tgt := 734) C dL_law_692 (by decide) (fun _ => by exact next _ _ _ (by omega) (by omega) hI2) (fun q => absurd rfl q)
      by_cases c24 : x = 23
      · refine g_tabIn C 23 (tgt := 697) dL_law_32 c24 (by decide) (by decide) rfl (by decide) ?_
        obtain ⟨r, e1, e2, hI2⟩ := HS.2.2.2.2.2.2.2.2.2.2.2.2.2.2.2.2.2.2.2.2.2.2.2.1
        refine g_aload_n C 1 dL_law_697 rfl ?_
        refine g_aload_n C 0 dL_law_698 rfl ?_
        refine g_iload_n C 3 dL_law_699 rfl ?_
        refine g_iconst C dL_law_700 (v := 1) (by decide) ?_
        refine g_iadd C dL_law_701 ?_
        refine g_sld C hX i1 dL_law_702 ?_
        refine g_callV C 0 (c_X10_count l E e1) cls_9 k_L_109 ⟨rfl, rfl, Nat.le_of_ble_eq_true rfl, Nat.le_of_ble_eq_true rfl⟩ (by decide) rfl rfl (Nat.le_of_ble_eq_true rfl) dL_law_703 _ rfl ?_
        refine g_aload_n C 2 dL_law_706 rfl ?_
        refine g_aload_n C 0 dL_law_707 rfl ?_
        refine g_iload_n C 3 dL_law_708 rfl ?_
        refine g_iconst C dL_law_709 (v := 1) (by decide) ?_
        refine g_iadd C dL_law_710 ?_
        refine g_sld C hX i1 dL_law_711 ?_
        refine g_callV C 20 (c_X11_count l E e2) cls_10 k_L_112 ⟨rfl, rfl, Nat.le_of_ble_eq_true rfl, Nat.le_of_ble_eq_true rfl⟩ (by decide) rfl rfl (Nat.le_of_ble_eq_true rfl) dL_law_712 _ rfl ?_
        exact g_icmp_eq (tgt := 734) C dL_law_715 (by decide) (fun _ => by exact next _ _ _ (by omega) (by omega) hI2) (fun q => absurd rfl q)
      by_cases c25 : x = 24
      · refine g_tabIn C 24 (tgt := 720) dL_law_32 c25 (by decide) (by decide) rfl (by decide) ?_
        obtain ⟨r, σ1, e1, σ2, e2, hI2⟩ := HS.2.2.2.2.2.2.2.2.2.2.2.2.2.2.2.2.2.2.2.2.2.2.2.2
        refine g_aload_n C 1 dL_law_720 rfl ?_
        refine g_callV C 0 (c_X10_digest l E e1) cls_9 k_L_113 ⟨rfl, rfl, Nat.le_of_ble_eq_true rfl, Nat.le_of_ble_eq_true rfl⟩ (by decide) rfl rfl (Nat.le_of_ble_eq_true rfl) dL_law_721 _ rfl ?_
        refine g_aload_n C 2 dL_law_724 rfl ?_
        refine g_callV C 20 (c_X11_digest l E e2) cls_10 k_L_117 ⟨rfl, rfl, Nat.le_of_ble_eq_true rfl, Nat.le_of_ble_eq_true rfl⟩ (by decide) rfl rfl (Nat.le_of_ble_eq_true rfl) dL_law_725 _ rfl ?_
        exact g_lcmp_eq (tgt := 734) C dL_law_728 dL_law_729 (by decide) (fun _ => by exact next _ _ _ (by omega) (by omega) hI2) (fun q => absurd rfl q)
      refine g_tabOut (tgt := 734) C dL_law_32 (by have q1 := lv_neT c1 (show (0 : Int32).toInt = 0 by decide); have q2 := lv_neT c2 (show (1 : Int32).toInt = 1 by decide); have q3 := lv_neT c3 (show (2 : Int32).toInt = 2 by decide); have q4 := lv_neT c4 (show (3 : Int32).toInt = 3 by decide); have q5 := lv_neT c5 (show (4 : Int32).toInt = 4 by decide); have q6 := lv_neT c6 (show (5 : Int32).toInt = 5 by decide); have q7 := lv_neT c7 (show (6 : Int32).toInt = 6 by decide); have q8 := lv_neT c8 (show (7 : Int32).toInt = 7 by decide); have q9 := lv_neT c9 (show (8 : Int32).toInt = 8 by decide); have q10 := lv_neT c10 (show (9 : Int32).toInt = 9 by decide); have q11 := lv_neT c11 (show (10 : Int32).toInt = 10 by decide); have q12 := lv_neT c12 (show (11 : Int32).toInt = 11 by decide); have q13 := lv_neT c13 (show (12 : Int32).toInt = 12 by decide); have q14 := lv_neT c14 (show (13 : Int32).toInt = 13 by decide); have q15 := lv_neT c15 (show (14 : Int32).toInt = 14 by decide); have q16 := lv_neT c16 (show (15 : Int32).toInt = 15 by decide); have q17 := lv_neT c17 (show (16 : Int32).toInt = 16 by decide); have q18 := lv_neT c18 (show (17 : Int32).toInt = 17 by decide); have q19 := lv_neT c19 (show (18 : Int32).toInt = 18 by decide); have q20 := lv_neT c20 (show (19 : Int32).toInt = 19 by decide); have q21 := lv_neT c21 (show (20 : Int32).toInt = 20 by decide); have q22 := lv_neT c22 (show (21 : Int32).toInt = 21 by decide); have q23 := lv_neT c23 (show (22 : Int32).toInt = 22 by decide); have q24 := lv_neT c24 (show (23 : Int32).toInt = 23 by decide); have q25 := lv_neT c25 (show (24 : Int32).toInt = 24 by decide); omega) (by decide) ?_
      exact next _ _ _ (by omega) (by omega) (hstep.1 t σ hI)
