theorem cls_0 : CLS 0 RX0 TX0 2 := ⟨rfl, by decide +kernel⟩
theorem cls_1 : CLS 1 RX1 TX1 3 := ⟨rfl, by decide +kernel⟩
theorem cls_2 : CLS 2 RX2 TX2 2 := ⟨rfl, by decide +kernel⟩
theorem cls_3 : CLS 3 RX3 TX3 11 := ⟨rfl, by decide +kernel⟩
theorem cls_4 : CLS 4 RX4 TX4 2 := ⟨rfl, by decide +kernel⟩
theorem cls_5 : CLS 5 RX5 TX5 2 := ⟨rfl, by decide +kernel⟩
theorem cls_6 : CLS 6 RX6 TX6 2 := ⟨rfl, by decide +kernel⟩
theorem cls_7 : CLS 7 RX7 TX7 2 := ⟨rfl, by decide +kernel⟩
theorem cls_8 : CLS 8 RX9 TX9 9 := ⟨rfl, by decide +kernel⟩
theorem cls_9 : CLS 9 RX10 TX10 8 := ⟨rfl, by decide +kernel⟩
theorem cls_10 : CLS 10 RX11 TX11 40 := ⟨rfl, by decide +kernel⟩
theorem ar_2 : ARY 2 44 := ⟨by decide, fun _ _ => rfl⟩
theorem ar_7 : ARY 7 8 := ⟨by decide, fun _ _ => rfl⟩
theorem ar_8 : ARY 8 8 := ⟨by decide, fun _ _ => rfl⟩
theorem ar_9 : ARY 9 6 := ⟨by decide, fun _ _ => rfl⟩
theorem ar_10 : ARY 10 6 := ⟨by decide, fun _ _ => rfl⟩
theorem ar_11 : ARY 11 6 := ⟨by decide, fun _ _ => rfl⟩
theorem ar_12 : ARY 12 5 := ⟨by decide, fun _ _ => rfl⟩
theorem ar_15 : ARY 15 8 := ⟨by decide, fun _ _ => rfl⟩
theorem ar_16 : ARY 16 8 := ⟨by decide, fun _ _ => rfl⟩
theorem ar_17 : ARY 17 6 := ⟨by decide, fun _ _ => rfl⟩
theorem ar_18 : ARY 18 6 := ⟨by decide, fun _ _ => rfl⟩
theorem ar_19 : ARY 19 6 := ⟨by decide, fun _ _ => rfl⟩
theorem ar_21 : ARY 21 44 := ⟨by decide, fun _ _ => rfl⟩
theorem ar_22 : ARY 22 24 := ⟨by decide, fun _ _ => rfl⟩
theorem ar_23 : ARY 23 8 := ⟨by decide, fun _ _ => rfl⟩
theorem ar_24 : ARY 24 8 := ⟨by decide, fun _ _ => rfl⟩
theorem ar_25 : ARY 25 8 := ⟨by decide, fun _ _ => rfl⟩
theorem ar_26 : ARY 26 8 := ⟨by decide, fun _ _ => rfl⟩
theorem ar_27 : ARY 27 8 := ⟨by decide, fun _ _ => rfl⟩
theorem ar_28 : ARY 28 8 := ⟨by decide, fun _ _ => rfl⟩
theorem ar_29 : ARY 29 48 := ⟨by decide, fun _ _ => rfl⟩
theorem ar_30 : ARY 30 6 := ⟨by decide, fun _ _ => rfl⟩
theorem ar_31 : ARY 31 6 := ⟨by decide, fun _ _ => rfl⟩
theorem ar_32 : ARY 32 512 := ⟨by decide, fun _ _ => rfl⟩
theorem ar_33 : ARY 33 18 := ⟨by decide, fun _ _ => rfl⟩
theorem ar_34 : ARY 34 12 := ⟨by decide, fun _ _ => rfl⟩
theorem ar_35 : ARY 35 8 := ⟨by decide, fun _ _ => rfl⟩
theorem ar_36 : ARY 36 8 := ⟨by decide, fun _ _ => rfl⟩
theorem ar_37 : ARY 37 8 := ⟨by decide, fun _ _ => rfl⟩
theorem ar_38 : ARY 38 8 := ⟨by decide, fun _ _ => rfl⟩
theorem ar_39 : ARY 39 18 := ⟨by decide, fun _ _ => rfl⟩
theorem kl_X10_259 : Cond.constantLong RX10 259 1187 ∈ lw_tbl := tb 779 (by decide +kernel)
theorem kl_X10_287 : Cond.constantLong RX10 287 31 ∈ lw_tbl := tb 784 (by decide +kernel)
theorem kl_X10_297 : Cond.constantLong RX10 297 15 ∈ lw_tbl := tb 557 (by decide +kernel)
theorem kl_X8_9 : Cond.constantLong RX8 9 15 ∈ lw_tbl := tb 420 (by decide +kernel)
theorem kl_X8_11 : Cond.constantLong RX8 11 (-1) ∈ lw_tbl := tb 421 (by decide +kernel)
theorem kl_X9_114 : Cond.constantLong RX9 114 1021 ∈ lw_tbl := tb 697 (by decide +kernel)
theorem kl_X9_131 : Cond.constantLong RX9 131 1103515245 ∈ lw_tbl := tb 743 (by decide +kernel)
theorem kl_X9_133 : Cond.constantLong RX9 133 12345 ∈ lw_tbl := tb 744 (by decide +kernel)
theorem kl_X9_135 : Cond.constantLong RX9 135 2147483648 ∈ lw_tbl := tb 745 (by decide +kernel)
theorem kl_X9_137 : Cond.constantLong RX9 137 65536 ∈ lw_tbl := tb 746 (by decide +kernel)
theorem kl_X11_71 : Cond.constantLong RX11 71 126 ∈ lw_tbl := tb 926 (by decide +kernel)
theorem kl_X11_80 : Cond.constantLong RX11 80 48 ∈ lw_tbl := tb 955 (by decide +kernel)
theorem kl_X11_90 : Cond.constantLong RX11 90 97 ∈ lw_tbl := tb 956 (by decide +kernel)
theorem kl_X11_92 : Cond.constantLong RX11 92 108 ∈ lw_tbl := tb 957 (by decide +kernel)
theorem kl_X11_94 : Cond.constantLong RX11 94 50 ∈ lw_tbl := tb 942 (by decide +kernel)
theorem kl_X11_96 : Cond.constantLong RX11 96 53 ∈ lw_tbl := tb 943 (by decide +kernel)
theorem kl_X11_127 : Cond.constantLong RX11 127 11 ∈ lw_tbl := tb 1025 (by decide +kernel)
theorem kl_X11_129 : Cond.constantLong RX11 129 8 ∈ lw_tbl := tb 970 (by decide +kernel)
theorem kl_X11_158 : Cond.constantLong RX11 158 10 ∈ lw_tbl := tb 987 (by decide +kernel)
theorem kl_X11_160 : Cond.constantLong RX11 160 17 ∈ lw_tbl := tb 988 (by decide +kernel)
theorem kl_X11_222 : Cond.constantLong RX11 222 4 ∈ lw_tbl := tb 1074 (by decide +kernel)
theorem kl_X11_249 : Cond.constantLong RX11 249 14 ∈ lw_tbl := tb 1115 (by decide +kernel)
theorem kl_X11_267 : Cond.constantLong RX11 267 3 ∈ lw_tbl := tb 1144 (by decide +kernel)
theorem kl_X11_279 : Cond.constantLong RX11 279 1103515245 ∈ lw_tbl := tb 1190 (by decide +kernel)
theorem kl_X11_284 : Cond.constantLong RX11 284 12345 ∈ lw_tbl := tb 1191 (by decide +kernel)
theorem kl_X11_286 : Cond.constantLong RX11 286 2147483647 ∈ lw_tbl := tb 1192 (by decide +kernel)
theorem kl_X11_289 : Cond.constantLong RX11 289 60 ∈ lw_tbl := tb 1180 (by decide +kernel)
theorem kl_X11_291 : Cond.constantLong RX11 291 2 ∈ lw_tbl := tb 1181 (by decide +kernel)
theorem kl_X11_326 : Cond.constantLong RX11 326 31 ∈ lw_tbl := tb 1227 (by decide +kernel)
theorem kl_X11_336 : Cond.constantLong RX11 336 1187 ∈ lw_tbl := tb 1222 (by decide +kernel)
theorem kc_X11_288 : Cond.constant RX11 288 65536 ∈ lw_tbl := tb 1193 (by decide +kernel)
theorem fl_X11_7 : FLD RX11 7 TX11 0 := tb 801 (by decide +kernel)
theorem fg_X11_7_20 {Γ : CX} {l : Launch} {cc : ByteArray} {nL : Nat} {R : Room} {E : EV} {σ : ST} {pc : Nat} {lv : List (Nat × Value)} {st : List Value} (C : FX Γ l cc nL RX11 R E) (hd : decode cc pc = .ok (.getfield 7, 3)) (K : GW Γ nL E σ (pc + 3) lv (.ref (E.2.1 21) :: st)) : GW Γ nL E σ pc lv (.ref (E.2.1 20) :: st) := g_get C 20 hd cls_10 fl_X11_7 (by decide) (by decide) rfl rfl K
theorem fl_X11_13 : FLD RX11 13 TX11 8 := tb 809 (by decide +kernel)
theorem fg_X11_13_20 {Γ : CX} {l : Launch} {cc : ByteArray} {nL : Nat} {R : Room} {E : EV} {σ : ST} {pc : Nat} {lv : List (Nat × Value)} {st : List Value} (C : FX Γ l cc nL RX11 R E) (hd : decode cc pc = .ok (.getfield 13, 3)) (K : GW Γ nL E σ (pc + 3) lv (.ref (E.2.1 22) :: st)) : GW Γ nL E σ pc lv (.ref (E.2.1 20) :: st) := g_get C 20 hd cls_10 fl_X11_13 (by decide) (by decide) rfl rfl K
theorem fl_X11_16 : FLD RX11 16 TX11 9 := tb 810 (by decide +kernel)
theorem fg_X11_16_20 {Γ : CX} {l : Launch} {cc : ByteArray} {nL : Nat} {R : Room} {E : EV} {σ : ST} {pc : Nat} {lv : List (Nat × Value)} {st : List Value} (C : FX Γ l cc nL RX11 R E) (hd : decode cc pc = .ok (.getfield 16, 3)) (K : GW Γ nL E σ (pc + 3) lv (.ref (E.2.1 23) :: st)) : GW Γ nL E σ pc lv (.ref (E.2.1 20) :: st) := g_get C 20 hd cls_10 fl_X11_16 (by decide) (by decide) rfl rfl K
theorem fl_X11_19 : FLD RX11 19 TX11 10 := tb 811 (by decide +kernel)
theorem fg_X11_19_20 {Γ : CX} {l : Launch} {cc : ByteArray} {nL : Nat} {R : Room} {E : EV} {σ : ST} {pc : Nat} {lv : List (Nat × Value)} {st : List Value} (C : FX Γ l cc nL RX11 R E) (hd : decode cc pc = .ok (.getfield 19, 3)) (K : GW Γ nL E σ (pc + 3) lv (.ref (E.2.1 24) :: st)) : GW Γ nL E σ pc lv (.ref (E.2.1 20) :: st) := g_get C 20 hd cls_10 fl_X11_19 (by decide) (by decide) rfl rfl K
theorem fl_X11_22 : FLD RX11 22 TX11 11 := tb 812 (by decide +kernel)
theorem fg_X11_22_20 {Γ : CX} {l : Launch} {cc : ByteArray} {nL : Nat} {R : Room} {E : EV} {σ : ST} {pc : Nat} {lv : List (Nat × Value)} {st : List Value} (C : FX Γ l cc nL RX11 R E) (hd : decode cc pc = .ok (.getfield 22, 3)) (K : GW Γ nL E σ (pc + 3) lv (.ref (E.2.1 25) :: st)) : GW Γ nL E σ pc lv (.ref (E.2.1 20) :: st) := g_get C 20 hd cls_10 fl_X11_22 (by decide) (by decide) rfl rfl K
theorem fl_X11_25 : FLD RX11 25 TX11 12 := tb 813 (by decide +kernel)
theorem fg_X11_25_20 {Γ : CX} {l : Launch} {cc : ByteArray} {nL : Nat} {R : Room} {E : EV} {σ : ST} {pc : Nat} {lv : List (Nat × Value)} {st : List Value} (C : FX Γ l cc nL RX11 R E) (hd : decode cc pc = .ok (.getfield 25, 3)) (K : GW Γ nL E σ (pc + 3) lv (.ref (E.2.1 26) :: st)) : GW Γ nL E σ pc lv (.ref (E.2.1 20) :: st) := g_get C 20 hd cls_10 fl_X11_25 (by decide) (by decide) rfl rfl K
theorem fl_X11_28 : FLD RX11 28 TX11 15 := tb 816 (by decide +kernel)
theorem fg_X11_28_20 {Γ : CX} {l : Launch} {cc : ByteArray} {nL : Nat} {R : Room} {E : EV} {σ : ST} {pc : Nat} {lv : List (Nat × Value)} {st : List Value} (C : FX Γ l cc nL RX11 R E) (hd : decode cc pc = .ok (.getfield 28, 3)) (K : GW Γ nL E σ (pc + 3) lv (.ref (E.2.1 27) :: st)) : GW Γ nL E σ pc lv (.ref (E.2.1 20) :: st) := g_get C 20 hd cls_10 fl_X11_28 (by decide) (by decide) rfl rfl K
theorem fl_X11_31 : FLD RX11 31 TX11 16 := tb 817 (by decide +kernel)
theorem fg_X11_31_20 {Γ : CX} {l : Launch} {cc : ByteArray} {nL : Nat} {R : Room} {E : EV} {σ : ST} {pc : Nat} {lv : List (Nat × Value)} {st : List Value} (C : FX Γ l cc nL RX11 R E) (hd : decode cc pc = .ok (.getfield 31, 3)) (K : GW Γ nL E σ (pc + 3) lv (.ref (E.2.1 28) :: st)) : GW Γ nL E σ pc lv (.ref (E.2.1 20) :: st) := g_get C 20 hd cls_10 fl_X11_31 (by decide) (by decide) rfl rfl K
theorem fl_X11_34 : FLD RX11 34 TX11 17 := tb 818 (by decide +kernel)
theorem fg_X11_34_20 {Γ : CX} {l : Launch} {cc : ByteArray} {nL : Nat} {R : Room} {E : EV} {σ : ST} {pc : Nat} {lv : List (Nat × Value)} {st : List Value} (C : FX Γ l cc nL RX11 R E) (hd : decode cc pc = .ok (.getfield 34, 3)) (K : GW Γ nL E σ (pc + 3) lv (.ref (E.2.1 29) :: st)) : GW Γ nL E σ pc lv (.ref (E.2.1 20) :: st) := g_get C 20 hd cls_10 fl_X11_34 (by decide) (by decide) rfl rfl K
theorem fl_X11_37 : FLD RX11 37 TX11 18 := tb 819 (by decide +kernel)
theorem fg_X11_37_20 {Γ : CX} {l : Launch} {cc : ByteArray} {nL : Nat} {R : Room} {E : EV} {σ : ST} {pc : Nat} {lv : List (Nat × Value)} {st : List Value} (C : FX Γ l cc nL RX11 R E) (hd : decode cc pc = .ok (.getfield 37, 3)) (K : GW Γ nL E σ (pc + 3) lv (.ref (E.2.1 30) :: st)) : GW Γ nL E σ pc lv (.ref (E.2.1 20) :: st) := g_get C 20 hd cls_10 fl_X11_37 (by decide) (by decide) rfl rfl K
theorem fl_X11_40 : FLD RX11 40 TX11 19 := tb 820 (by decide +kernel)
theorem fg_X11_40_20 {Γ : CX} {l : Launch} {cc : ByteArray} {nL : Nat} {R : Room} {E : EV} {σ : ST} {pc : Nat} {lv : List (Nat × Value)} {st : List Value} (C : FX Γ l cc nL RX11 R E) (hd : decode cc pc = .ok (.getfield 40, 3)) (K : GW Γ nL E σ (pc + 3) lv (.ref (E.2.1 31) :: st)) : GW Γ nL E σ pc lv (.ref (E.2.1 20) :: st) := g_get C 20 hd cls_10 fl_X11_40 (by decide) (by decide) rfl rfl K
theorem fl_X11_43 : FLD RX11 43 TX11 21 := tb 822 (by decide +kernel)
theorem fg_X11_43_20 {Γ : CX} {l : Launch} {cc : ByteArray} {nL : Nat} {R : Room} {E : EV} {σ : ST} {pc : Nat} {lv : List (Nat × Value)} {st : List Value} (C : FX Γ l cc nL RX11 R E) (hd : decode cc pc = .ok (.getfield 43, 3)) (K : GW Γ nL E σ (pc + 3) lv (.ref (E.2.1 32) :: st)) : GW Γ nL E σ pc lv (.ref (E.2.1 20) :: st) := g_get C 20 hd cls_10 fl_X11_43 (by decide) (by decide) rfl rfl K
theorem fl_X11_46 : FLD RX11 46 TX11 24 := tb 825 (by decide +kernel)
theorem fg_X11_46_20 {Γ : CX} {l : Launch} {cc : ByteArray} {nL : Nat} {R : Room} {E : EV} {σ : ST} {pc : Nat} {lv : List (Nat × Value)} {st : List Value} (C : FX Γ l cc nL RX11 R E) (hd : decode cc pc = .ok (.getfield 46, 3)) (K : GW Γ nL E σ (pc + 3) lv (.ref (E.2.1 33) :: st)) : GW Γ nL E σ pc lv (.ref (E.2.1 20) :: st) := g_get C 20 hd cls_10 fl_X11_46 (by decide) (by decide) rfl rfl K
theorem fl_X11_49 : FLD RX11 49 TX11 25 := tb 826 (by decide +kernel)
theorem fg_X11_49_20 {Γ : CX} {l : Launch} {cc : ByteArray} {nL : Nat} {R : Room} {E : EV} {σ : ST} {pc : Nat} {lv : List (Nat × Value)} {st : List Value} (C : FX Γ l cc nL RX11 R E) (hd : decode cc pc = .ok (.getfield 49, 3)) (K : GW Γ nL E σ (pc + 3) lv (.ref (E.2.1 34) :: st)) : GW Γ nL E σ pc lv (.ref (E.2.1 20) :: st) := g_get C 20 hd cls_10 fl_X11_49 (by decide) (by decide) rfl rfl K
theorem fl_X11_52 : FLD RX11 52 TX11 34 := tb 835 (by decide +kernel)
theorem fg_X11_52_20 {Γ : CX} {l : Launch} {cc : ByteArray} {nL : Nat} {R : Room} {E : EV} {σ : ST} {pc : Nat} {lv : List (Nat × Value)} {st : List Value} (C : FX Γ l cc nL RX11 R E) (hd : decode cc pc = .ok (.getfield 52, 3)) (K : GW Γ nL E σ (pc + 3) lv (.ref (E.2.1 35) :: st)) : GW Γ nL E σ pc lv (.ref (E.2.1 20) :: st) := g_get C 20 hd cls_10 fl_X11_52 (by decide) (by decide) rfl rfl K
theorem fl_X11_55 : FLD RX11 55 TX11 35 := tb 836 (by decide +kernel)
theorem fg_X11_55_20 {Γ : CX} {l : Launch} {cc : ByteArray} {nL : Nat} {R : Room} {E : EV} {σ : ST} {pc : Nat} {lv : List (Nat × Value)} {st : List Value} (C : FX Γ l cc nL RX11 R E) (hd : decode cc pc = .ok (.getfield 55, 3)) (K : GW Γ nL E σ (pc + 3) lv (.ref (E.2.1 36) :: st)) : GW Γ nL E σ pc lv (.ref (E.2.1 20) :: st) := g_get C 20 hd cls_10 fl_X11_55 (by decide) (by decide) rfl rfl K
theorem fl_X11_58 : FLD RX11 58 TX11 36 := tb 837 (by decide +kernel)
theorem fg_X11_58_20 {Γ : CX} {l : Launch} {cc : ByteArray} {nL : Nat} {R : Room} {E : EV} {σ : ST} {pc : Nat} {lv : List (Nat × Value)} {st : List Value} (C : FX Γ l cc nL RX11 R E) (hd : decode cc pc = .ok (.getfield 58, 3)) (K : GW Γ nL E σ (pc + 3) lv (.ref (E.2.1 37) :: st)) : GW Γ nL E σ pc lv (.ref (E.2.1 20) :: st) := g_get C 20 hd cls_10 fl_X11_58 (by decide) (by decide) rfl rfl K
theorem fl_X11_61 : FLD RX11 61 TX11 37 := tb 838 (by decide +kernel)
theorem fg_X11_61_20 {Γ : CX} {l : Launch} {cc : ByteArray} {nL : Nat} {R : Room} {E : EV} {σ : ST} {pc : Nat} {lv : List (Nat × Value)} {st : List Value} (C : FX Γ l cc nL RX11 R E) (hd : decode cc pc = .ok (.getfield 61, 3)) (K : GW Γ nL E σ (pc + 3) lv (.ref (E.2.1 38) :: st)) : GW Γ nL E σ pc lv (.ref (E.2.1 20) :: st) := g_get C 20 hd cls_10 fl_X11_61 (by decide) (by decide) rfl rfl K
theorem fl_X11_64 : FLD RX11 64 TX11 38 := tb 839 (by decide +kernel)
theorem fg_X11_64_20 {Γ : CX} {l : Launch} {cc : ByteArray} {nL : Nat} {R : Room} {E : EV} {σ : ST} {pc : Nat} {lv : List (Nat × Value)} {st : List Value} (C : FX Γ l cc nL RX11 R E) (hd : decode cc pc = .ok (.getfield 64, 3)) (K : GW Γ nL E σ (pc + 3) lv (.ref (E.2.1 39) :: st)) : GW Γ nL E σ pc lv (.ref (E.2.1 20) :: st) := g_get C 20 hd cls_10 fl_X11_64 (by decide) (by decide) rfl rfl K
theorem fl_X11_67 : FLD RX11 67 TX11 27 := tb 828 (by decide +kernel)
theorem fg_X11_67_20 {Γ : CX} {l : Launch} {cc : ByteArray} {nL : Nat} {R : Room} {E : EV} {σ : ST} {pc : Nat} {lv : List (Nat × Value)} {st : List Value} (C : FX Γ l cc nL RX11 R E) (hd : decode cc pc = .ok (.getfield 67, 3)) (K : GW Γ nL E σ (pc + 3) lv (.int (σ.1 20 27) :: st)) : GW Γ nL E σ pc lv (.ref (E.2.1 20) :: st) := g_get C 20 hd cls_10 fl_X11_67 (by decide) (by decide) rfl rfl K
theorem fp_X11_67_20 {Γ : CX} {l : Launch} {cc : ByteArray} {nL : Nat} {R : Room} {E : EV} {σ : ST} {pc : Nat} {lv : List (Nat × Value)} {st : List Value} {x : Int32} {σ' : ST} (C : FX Γ l cc nL RX11 R E) (hd : decode cc pc = .ok (.putfield 67, 3)) (hσ : uI σ 20 27 x = σ') (K : GW Γ nL E σ' (pc + 3) lv st) : GW Γ nL E σ pc lv (.int x :: .ref (E.2.1 20) :: st) := by
  subst hσ
  exact g_put C 20 (uI σ 20 27 x) hd cls_10 fl_X11_67 tyX11 tyX11_ok nmX11 (by decide) (by decide) rfl rfl rfl rfl rfl (Nat.le_of_ble_eq_true rfl) rfl (fun j hj => ⟨va_up_ne _ _ hj, rfl⟩) rfl K
theorem fl_X11_77 : FLD RX11 77 TX11 1 := tb 802 (by decide +kernel)
theorem fg_X11_77_20 {Γ : CX} {l : Launch} {cc : ByteArray} {nL : Nat} {R : Room} {E : EV} {σ : ST} {pc : Nat} {lv : List (Nat × Value)} {st : List Value} (C : FX Γ l cc nL RX11 R E) (hd : decode cc pc = .ok (.getfield 77, 3)) (K : GW Γ nL E σ (pc + 3) lv (.int (σ.1 20 1) :: st)) : GW Γ nL E σ pc lv (.ref (E.2.1 20) :: st) := g_get C 20 hd cls_10 fl_X11_77 (by decide) (by decide) rfl rfl K
theorem fp_X11_77_20 {Γ : CX} {l : Launch} {cc : ByteArray} {nL : Nat} {R : Room} {E : EV} {σ : ST} {pc : Nat} {lv : List (Nat × Value)} {st : List Value} {x : Int32} {σ' : ST} (C : FX Γ l cc nL RX11 R E) (hd : decode cc pc = .ok (.putfield 77, 3)) (hσ : uI σ 20 1 x = σ') (K : GW Γ nL E σ' (pc + 3) lv st) : GW Γ nL E σ pc lv (.int x :: .ref (E.2.1 20) :: st) := by
  subst hσ
  exact g_put C 20 (uI σ 20 1 x) hd cls_10 fl_X11_77 tyX11 tyX11_ok nmX11 (by decide) (by decide) rfl rfl rfl rfl rfl (Nat.le_of_ble_eq_true rfl) rfl (fun j hj => ⟨va_up_ne _ _ hj, rfl⟩) rfl K
theorem fl_X11_105 : FLD RX11 105 TX11 2 := tb 803 (by decide +kernel)
theorem fg_X11_105_20 {Γ : CX} {l : Launch} {cc : ByteArray} {nL : Nat} {R : Room} {E : EV} {σ : ST} {pc : Nat} {lv : List (Nat × Value)} {st : List Value} (C : FX Γ l cc nL RX11 R E) (hd : decode cc pc = .ok (.getfield 105, 3)) (K : GW Γ nL E σ (pc + 3) lv (.int (σ.1 20 2) :: st)) : GW Γ nL E σ pc lv (.ref (E.2.1 20) :: st) := g_get C 20 hd cls_10 fl_X11_105 (by decide) (by decide) rfl rfl K
theorem fp_X11_105_20 {Γ : CX} {l : Launch} {cc : ByteArray} {nL : Nat} {R : Room} {E : EV} {σ : ST} {pc : Nat} {lv : List (Nat × Value)} {st : List Value} {x : Int32} {σ' : ST} (C : FX Γ l cc nL RX11 R E) (hd : decode cc pc = .ok (.putfield 105, 3)) (hσ : uI σ 20 2 x = σ') (K : GW Γ nL E σ' (pc + 3) lv st) : GW Γ nL E σ pc lv (.int x :: .ref (E.2.1 20) :: st) := by
  subst hσ
  exact g_put C 20 (uI σ 20 2 x) hd cls_10 fl_X11_105 tyX11 tyX11_ok nmX11 (by decide) (by decide) rfl rfl rfl rfl rfl (Nat.le_of_ble_eq_true rfl) rfl (fun j hj => ⟨va_up_ne _ _ hj, rfl⟩) rfl K
theorem fl_X11_108 : FLD RX11 108 TX11 3 := tb 804 (by decide +kernel)
theorem fg_X11_108_20 {Γ : CX} {l : Launch} {cc : ByteArray} {nL : Nat} {R : Room} {E : EV} {σ : ST} {pc : Nat} {lv : List (Nat × Value)} {st : List Value} (C : FX Γ l cc nL RX11 R E) (hd : decode cc pc = .ok (.getfield 108, 3)) (K : GW Γ nL E σ (pc + 3) lv (.int (σ.1 20 3) :: st)) : GW Γ nL E σ pc lv (.ref (E.2.1 20) :: st) := g_get C 20 hd cls_10 fl_X11_108 (by decide) (by decide) rfl rfl K
theorem fp_X11_108_20 {Γ : CX} {l : Launch} {cc : ByteArray} {nL : Nat} {R : Room} {E : EV} {σ : ST} {pc : Nat} {lv : List (Nat × Value)} {st : List Value} {x : Int32} {σ' : ST} (C : FX Γ l cc nL RX11 R E) (hd : decode cc pc = .ok (.putfield 108, 3)) (hσ : uI σ 20 3 x = σ') (K : GW Γ nL E σ' (pc + 3) lv st) : GW Γ nL E σ pc lv (.int x :: .ref (E.2.1 20) :: st) := by
  subst hσ
  exact g_put C 20 (uI σ 20 3 x) hd cls_10 fl_X11_108 tyX11 tyX11_ok nmX11 (by decide) (by decide) rfl rfl rfl rfl rfl (Nat.le_of_ble_eq_true rfl) rfl (fun j hj => ⟨va_up_ne _ _ hj, rfl⟩) rfl K
theorem fl_X11_111 : FLD RX11 111 TX11 4 := tb 805 (by decide +kernel)
theorem fg_X11_111_20 {Γ : CX} {l : Launch} {cc : ByteArray} {nL : Nat} {R : Room} {E : EV} {σ : ST} {pc : Nat} {lv : List (Nat × Value)} {st : List Value} (C : FX Γ l cc nL RX11 R E) (hd : decode cc pc = .ok (.getfield 111, 3)) (K : GW Γ nL E σ (pc + 3) lv (.int (σ.1 20 4) :: st)) : GW Γ nL E σ pc lv (.ref (E.2.1 20) :: st) := g_get C 20 hd cls_10 fl_X11_111 (by decide) (by decide) rfl rfl K
theorem fp_X11_111_20 {Γ : CX} {l : Launch} {cc : ByteArray} {nL : Nat} {R : Room} {E : EV} {σ : ST} {pc : Nat} {lv : List (Nat × Value)} {st : List Value} {x : Int32} {σ' : ST} (C : FX Γ l cc nL RX11 R E) (hd : decode cc pc = .ok (.putfield 111, 3)) (hσ : uI σ 20 4 x = σ') (K : GW Γ nL E σ' (pc + 3) lv st) : GW Γ nL E σ pc lv (.int x :: .ref (E.2.1 20) :: st) := by
  subst hσ
  exact g_put C 20 (uI σ 20 4 x) hd cls_10 fl_X11_111 tyX11 tyX11_ok nmX11 (by decide) (by decide) rfl rfl rfl rfl rfl (Nat.le_of_ble_eq_true rfl) rfl (fun j hj => ⟨va_up_ne _ _ hj, rfl⟩) rfl K
theorem fl_X11_114 : FLD RX11 114 TX11 5 := tb 806 (by decide +kernel)
theorem fg_X11_114_20 {Γ : CX} {l : Launch} {cc : ByteArray} {nL : Nat} {R : Room} {E : EV} {σ : ST} {pc : Nat} {lv : List (Nat × Value)} {st : List Value} (C : FX Γ l cc nL RX11 R E) (hd : decode cc pc = .ok (.getfield 114, 3)) (K : GW Γ nL E σ (pc + 3) lv (.int (σ.1 20 5) :: st)) : GW Γ nL E σ pc lv (.ref (E.2.1 20) :: st) := g_get C 20 hd cls_10 fl_X11_114 (by decide) (by decide) rfl rfl K
theorem fp_X11_114_20 {Γ : CX} {l : Launch} {cc : ByteArray} {nL : Nat} {R : Room} {E : EV} {σ : ST} {pc : Nat} {lv : List (Nat × Value)} {st : List Value} {x : Int32} {σ' : ST} (C : FX Γ l cc nL RX11 R E) (hd : decode cc pc = .ok (.putfield 114, 3)) (hv : x = 0 ∨ x = 1) (hσ : uI σ 20 5 x = σ') (K : GW Γ nL E σ' (pc + 3) lv st) : GW Γ nL E σ pc lv (.int x :: .ref (E.2.1 20) :: st) := by
  subst hσ
  exact g_put C 20 (uI σ 20 5 x) hd cls_10 fl_X11_114 tyX11 tyX11_ok nmX11 (by decide) (by decide) rfl rfl (by rcases hv with rfl | rfl <;> rfl) (by rcases hv with rfl | rfl <;> rfl) rfl (Nat.le_of_ble_eq_true rfl) rfl (fun j hj => ⟨va_up_ne _ _ hj, rfl⟩) rfl K
theorem fl_X11_118 : FLD RX11 118 TX11 6 := tb 807 (by decide +kernel)
theorem fg_X11_118_20 {Γ : CX} {l : Launch} {cc : ByteArray} {nL : Nat} {R : Room} {E : EV} {σ : ST} {pc : Nat} {lv : List (Nat × Value)} {st : List Value} (C : FX Γ l cc nL RX11 R E) (hd : decode cc pc = .ok (.getfield 118, 3)) (K : GW Γ nL E σ (pc + 3) lv (.int (σ.1 20 6) :: st)) : GW Γ nL E σ pc lv (.ref (E.2.1 20) :: st) := g_get C 20 hd cls_10 fl_X11_118 (by decide) (by decide) rfl rfl K
theorem fp_X11_118_20 {Γ : CX} {l : Launch} {cc : ByteArray} {nL : Nat} {R : Room} {E : EV} {σ : ST} {pc : Nat} {lv : List (Nat × Value)} {st : List Value} {x : Int32} {σ' : ST} (C : FX Γ l cc nL RX11 R E) (hd : decode cc pc = .ok (.putfield 118, 3)) (hσ : uI σ 20 6 x = σ') (K : GW Γ nL E σ' (pc + 3) lv st) : GW Γ nL E σ pc lv (.int x :: .ref (E.2.1 20) :: st) := by
  subst hσ
  exact g_put C 20 (uI σ 20 6 x) hd cls_10 fl_X11_118 tyX11 tyX11_ok nmX11 (by decide) (by decide) rfl rfl rfl rfl rfl (Nat.le_of_ble_eq_true rfl) rfl (fun j hj => ⟨va_up_ne _ _ hj, rfl⟩) rfl K
theorem fl_X11_121 : FLD RX11 121 TX11 23 := tb 824 (by decide +kernel)
theorem fg_X11_121_20 {Γ : CX} {l : Launch} {cc : ByteArray} {nL : Nat} {R : Room} {E : EV} {σ : ST} {pc : Nat} {lv : List (Nat × Value)} {st : List Value} (C : FX Γ l cc nL RX11 R E) (hd : decode cc pc = .ok (.getfield 121, 3)) (K : GW Γ nL E σ (pc + 3) lv (.int (σ.1 20 23) :: st)) : GW Γ nL E σ pc lv (.ref (E.2.1 20) :: st) := g_get C 20 hd cls_10 fl_X11_121 (by decide) (by decide) rfl rfl K
theorem fp_X11_121_20 {Γ : CX} {l : Launch} {cc : ByteArray} {nL : Nat} {R : Room} {E : EV} {σ : ST} {pc : Nat} {lv : List (Nat × Value)} {st : List Value} {x : Int32} {σ' : ST} (C : FX Γ l cc nL RX11 R E) (hd : decode cc pc = .ok (.putfield 121, 3)) (hσ : uI σ 20 23 x = σ') (K : GW Γ nL E σ' (pc + 3) lv st) : GW Γ nL E σ pc lv (.int x :: .ref (E.2.1 20) :: st) := by
  subst hσ
  exact g_put C 20 (uI σ 20 23 x) hd cls_10 fl_X11_121 tyX11 tyX11_ok nmX11 (by decide) (by decide) rfl rfl rfl rfl rfl (Nat.le_of_ble_eq_true rfl) rfl (fun j hj => ⟨va_up_ne _ _ hj, rfl⟩) rfl K
theorem fl_X11_124 : FLD RX11 124 TX11 7 := tb 808 (by decide +kernel)
theorem fg_X11_124_20 {Γ : CX} {l : Launch} {cc : ByteArray} {nL : Nat} {R : Room} {E : EV} {σ : ST} {pc : Nat} {lv : List (Nat × Value)} {st : List Value} (C : FX Γ l cc nL RX11 R E) (hd : decode cc pc = .ok (.getfield 124, 3)) (K : GW Γ nL E σ (pc + 3) lv (.int (σ.1 20 7) :: st)) : GW Γ nL E σ pc lv (.ref (E.2.1 20) :: st) := g_get C 20 hd cls_10 fl_X11_124 (by decide) (by decide) rfl rfl K
theorem fp_X11_124_20 {Γ : CX} {l : Launch} {cc : ByteArray} {nL : Nat} {R : Room} {E : EV} {σ : ST} {pc : Nat} {lv : List (Nat × Value)} {st : List Value} {x : Int32} {σ' : ST} (C : FX Γ l cc nL RX11 R E) (hd : decode cc pc = .ok (.putfield 124, 3)) (hσ : uI σ 20 7 x = σ') (K : GW Γ nL E σ' (pc + 3) lv st) : GW Γ nL E σ pc lv (.int x :: .ref (E.2.1 20) :: st) := by
  subst hσ
  exact g_put C 20 (uI σ 20 7 x) hd cls_10 fl_X11_124 tyX11 tyX11_ok nmX11 (by decide) (by decide) rfl rfl rfl rfl rfl (Nat.le_of_ble_eq_true rfl) rfl (fun j hj => ⟨va_up_ne _ _ hj, rfl⟩) rfl K
theorem fl_X11_135 : FLD RX11 135 TX11 13 := tb 814 (by decide +kernel)
theorem fg_X11_135_20 {Γ : CX} {l : Launch} {cc : ByteArray} {nL : Nat} {R : Room} {E : EV} {σ : ST} {pc : Nat} {lv : List (Nat × Value)} {st : List Value} (C : FX Γ l cc nL RX11 R E) (hd : decode cc pc = .ok (.getfield 135, 3)) (K : GW Γ nL E σ (pc + 3) lv (.int (σ.1 20 13) :: st)) : GW Γ nL E σ pc lv (.ref (E.2.1 20) :: st) := g_get C 20 hd cls_10 fl_X11_135 (by decide) (by decide) rfl rfl K
theorem fp_X11_135_20 {Γ : CX} {l : Launch} {cc : ByteArray} {nL : Nat} {R : Room} {E : EV} {σ : ST} {pc : Nat} {lv : List (Nat × Value)} {st : List Value} {x : Int32} {σ' : ST} (C : FX Γ l cc nL RX11 R E) (hd : decode cc pc = .ok (.putfield 135, 3)) (hσ : uI σ 20 13 x = σ') (K : GW Γ nL E σ' (pc + 3) lv st) : GW Γ nL E σ pc lv (.int x :: .ref (E.2.1 20) :: st) := by
  subst hσ
  exact g_put C 20 (uI σ 20 13 x) hd cls_10 fl_X11_135 tyX11 tyX11_ok nmX11 (by decide) (by decide) rfl rfl rfl rfl rfl (Nat.le_of_ble_eq_true rfl) rfl (fun j hj => ⟨va_up_ne _ _ hj, rfl⟩) rfl K
theorem fl_X11_138 : FLD RX11 138 TX11 14 := tb 815 (by decide +kernel)
theorem fg_X11_138_20 {Γ : CX} {l : Launch} {cc : ByteArray} {nL : Nat} {R : Room} {E : EV} {σ : ST} {pc : Nat} {lv : List (Nat × Value)} {st : List Value} (C : FX Γ l cc nL RX11 R E) (hd : decode cc pc = .ok (.getfield 138, 3)) (K : GW Γ nL E σ (pc + 3) lv (.int (σ.1 20 14) :: st)) : GW Γ nL E σ pc lv (.ref (E.2.1 20) :: st) := g_get C 20 hd cls_10 fl_X11_138 (by decide) (by decide) rfl rfl K
theorem fp_X11_138_20 {Γ : CX} {l : Launch} {cc : ByteArray} {nL : Nat} {R : Room} {E : EV} {σ : ST} {pc : Nat} {lv : List (Nat × Value)} {st : List Value} {x : Int32} {σ' : ST} (C : FX Γ l cc nL RX11 R E) (hd : decode cc pc = .ok (.putfield 138, 3)) (hσ : uI σ 20 14 x = σ') (K : GW Γ nL E σ' (pc + 3) lv st) : GW Γ nL E σ pc lv (.int x :: .ref (E.2.1 20) :: st) := by
  subst hσ
  exact g_put C 20 (uI σ 20 14 x) hd cls_10 fl_X11_138 tyX11 tyX11_ok nmX11 (by decide) (by decide) rfl rfl rfl rfl rfl (Nat.le_of_ble_eq_true rfl) rfl (fun j hj => ⟨va_up_ne _ _ hj, rfl⟩) rfl K
theorem fl_X11_254 : FLD RX11 254 TX11 20 := tb 821 (by decide +kernel)
theorem fg_X11_254_20 {Γ : CX} {l : Launch} {cc : ByteArray} {nL : Nat} {R : Room} {E : EV} {σ : ST} {pc : Nat} {lv : List (Nat × Value)} {st : List Value} (C : FX Γ l cc nL RX11 R E) (hd : decode cc pc = .ok (.getfield 254, 3)) (K : GW Γ nL E σ (pc + 3) lv (.int (σ.1 20 20) :: st)) : GW Γ nL E σ pc lv (.ref (E.2.1 20) :: st) := g_get C 20 hd cls_10 fl_X11_254 (by decide) (by decide) rfl rfl K
theorem fp_X11_254_20 {Γ : CX} {l : Launch} {cc : ByteArray} {nL : Nat} {R : Room} {E : EV} {σ : ST} {pc : Nat} {lv : List (Nat × Value)} {st : List Value} {x : Int32} {σ' : ST} (C : FX Γ l cc nL RX11 R E) (hd : decode cc pc = .ok (.putfield 254, 3)) (hσ : uI σ 20 20 x = σ') (K : GW Γ nL E σ' (pc + 3) lv st) : GW Γ nL E σ pc lv (.int x :: .ref (E.2.1 20) :: st) := by
  subst hσ
  exact g_put C 20 (uI σ 20 20 x) hd cls_10 fl_X11_254 tyX11 tyX11_ok nmX11 (by decide) (by decide) rfl rfl rfl rfl rfl (Nat.le_of_ble_eq_true rfl) rfl (fun j hj => ⟨va_up_ne _ _ hj, rfl⟩) rfl K
theorem fl_X11_260 : FLD RX11 260 TX11 22 := tb 823 (by decide +kernel)
theorem fg_X11_260_20 {Γ : CX} {l : Launch} {cc : ByteArray} {nL : Nat} {R : Room} {E : EV} {σ : ST} {pc : Nat} {lv : List (Nat × Value)} {st : List Value} (C : FX Γ l cc nL RX11 R E) (hd : decode cc pc = .ok (.getfield 260, 3)) (K : GW Γ nL E σ (pc + 3) lv (.int (σ.1 20 22) :: st)) : GW Γ nL E σ pc lv (.ref (E.2.1 20) :: st) := g_get C 20 hd cls_10 fl_X11_260 (by decide) (by decide) rfl rfl K
theorem fp_X11_260_20 {Γ : CX} {l : Launch} {cc : ByteArray} {nL : Nat} {R : Room} {E : EV} {σ : ST} {pc : Nat} {lv : List (Nat × Value)} {st : List Value} {x : Int32} {σ' : ST} (C : FX Γ l cc nL RX11 R E) (hd : decode cc pc = .ok (.putfield 260, 3)) (hσ : uI σ 20 22 x = σ') (K : GW Γ nL E σ' (pc + 3) lv st) : GW Γ nL E σ pc lv (.int x :: .ref (E.2.1 20) :: st) := by
  subst hσ
  exact g_put C 20 (uI σ 20 22 x) hd cls_10 fl_X11_260 tyX11 tyX11_ok nmX11 (by decide) (by decide) rfl rfl rfl rfl rfl (Nat.le_of_ble_eq_true rfl) rfl (fun j hj => ⟨va_up_ne _ _ hj, rfl⟩) rfl K
theorem fl_X11_281 : FLD RX11 281 TX11 26 := tb 827 (by decide +kernel)
theorem fg_X11_281_20 {Γ : CX} {l : Launch} {cc : ByteArray} {nL : Nat} {R : Room} {E : EV} {σ : ST} {pc : Nat} {lv : List (Nat × Value)} {st : List Value} (C : FX Γ l cc nL RX11 R E) (hd : decode cc pc = .ok (.getfield 281, 3)) (K : GW Γ nL E σ (pc + 3) lv (.int (σ.1 20 26) :: st)) : GW Γ nL E σ pc lv (.ref (E.2.1 20) :: st) := g_get C 20 hd cls_10 fl_X11_281 (by decide) (by decide) rfl rfl K
theorem fp_X11_281_20 {Γ : CX} {l : Launch} {cc : ByteArray} {nL : Nat} {R : Room} {E : EV} {σ : ST} {pc : Nat} {lv : List (Nat × Value)} {st : List Value} {x : Int32} {σ' : ST} (C : FX Γ l cc nL RX11 R E) (hd : decode cc pc = .ok (.putfield 281, 3)) (hσ : uI σ 20 26 x = σ') (K : GW Γ nL E σ' (pc + 3) lv st) : GW Γ nL E σ pc lv (.int x :: .ref (E.2.1 20) :: st) := by
  subst hσ
  exact g_put C 20 (uI σ 20 26 x) hd cls_10 fl_X11_281 tyX11 tyX11_ok nmX11 (by decide) (by decide) rfl rfl rfl rfl rfl (Nat.le_of_ble_eq_true rfl) rfl (fun j hj => ⟨va_up_ne _ _ hj, rfl⟩) rfl K
theorem fl_X11_302 : FLD RX11 302 TX11 28 := tb 829 (by decide +kernel)
theorem fg_X11_302_20 {Γ : CX} {l : Launch} {cc : ByteArray} {nL : Nat} {R : Room} {E : EV} {σ : ST} {pc : Nat} {lv : List (Nat × Value)} {st : List Value} (C : FX Γ l cc nL RX11 R E) (hd : decode cc pc = .ok (.getfield 302, 3)) (K : GW Γ nL E σ (pc + 3) lv (.int (σ.1 20 28) :: st)) : GW Γ nL E σ pc lv (.ref (E.2.1 20) :: st) := g_get C 20 hd cls_10 fl_X11_302 (by decide) (by decide) rfl rfl K
theorem fp_X11_302_20 {Γ : CX} {l : Launch} {cc : ByteArray} {nL : Nat} {R : Room} {E : EV} {σ : ST} {pc : Nat} {lv : List (Nat × Value)} {st : List Value} {x : Int32} {σ' : ST} (C : FX Γ l cc nL RX11 R E) (hd : decode cc pc = .ok (.putfield 302, 3)) (hσ : uI σ 20 28 x = σ') (K : GW Γ nL E σ' (pc + 3) lv st) : GW Γ nL E σ pc lv (.int x :: .ref (E.2.1 20) :: st) := by
  subst hσ
  exact g_put C 20 (uI σ 20 28 x) hd cls_10 fl_X11_302 tyX11 tyX11_ok nmX11 (by decide) (by decide) rfl rfl rfl rfl rfl (Nat.le_of_ble_eq_true rfl) rfl (fun j hj => ⟨va_up_ne _ _ hj, rfl⟩) rfl K
theorem fl_X11_305 : FLD RX11 305 TX11 29 := tb 830 (by decide +kernel)
theorem fg_X11_305_20 {Γ : CX} {l : Launch} {cc : ByteArray} {nL : Nat} {R : Room} {E : EV} {σ : ST} {pc : Nat} {lv : List (Nat × Value)} {st : List Value} (C : FX Γ l cc nL RX11 R E) (hd : decode cc pc = .ok (.getfield 305, 3)) (K : GW Γ nL E σ (pc + 3) lv (.int (σ.1 20 29) :: st)) : GW Γ nL E σ pc lv (.ref (E.2.1 20) :: st) := g_get C 20 hd cls_10 fl_X11_305 (by decide) (by decide) rfl rfl K
theorem fp_X11_305_20 {Γ : CX} {l : Launch} {cc : ByteArray} {nL : Nat} {R : Room} {E : EV} {σ : ST} {pc : Nat} {lv : List (Nat × Value)} {st : List Value} {x : Int32} {σ' : ST} (C : FX Γ l cc nL RX11 R E) (hd : decode cc pc = .ok (.putfield 305, 3)) (hv : x = 0 ∨ x = 1) (hσ : uI σ 20 29 x = σ') (K : GW Γ nL E σ' (pc + 3) lv st) : GW Γ nL E σ pc lv (.int x :: .ref (E.2.1 20) :: st) := by
  subst hσ
  exact g_put C 20 (uI σ 20 29 x) hd cls_10 fl_X11_305 tyX11 tyX11_ok nmX11 (by decide) (by decide) rfl rfl (by rcases hv with rfl | rfl <;> rfl) (by rcases hv with rfl | rfl <;> rfl) rfl (Nat.le_of_ble_eq_true rfl) rfl (fun j hj => ⟨va_up_ne _ _ hj, rfl⟩) rfl K
theorem fl_X11_308 : FLD RX11 308 TX11 30 := tb 831 (by decide +kernel)
theorem fg_X11_308_20 {Γ : CX} {l : Launch} {cc : ByteArray} {nL : Nat} {R : Room} {E : EV} {σ : ST} {pc : Nat} {lv : List (Nat × Value)} {st : List Value} (C : FX Γ l cc nL RX11 R E) (hd : decode cc pc = .ok (.getfield 308, 3)) (K : GW Γ nL E σ (pc + 3) lv (.int (σ.1 20 30) :: st)) : GW Γ nL E σ pc lv (.ref (E.2.1 20) :: st) := g_get C 20 hd cls_10 fl_X11_308 (by decide) (by decide) rfl rfl K
theorem fp_X11_308_20 {Γ : CX} {l : Launch} {cc : ByteArray} {nL : Nat} {R : Room} {E : EV} {σ : ST} {pc : Nat} {lv : List (Nat × Value)} {st : List Value} {x : Int32} {σ' : ST} (C : FX Γ l cc nL RX11 R E) (hd : decode cc pc = .ok (.putfield 308, 3)) (hσ : uI σ 20 30 x = σ') (K : GW Γ nL E σ' (pc + 3) lv st) : GW Γ nL E σ pc lv (.int x :: .ref (E.2.1 20) :: st) := by
  subst hσ
  exact g_put C 20 (uI σ 20 30 x) hd cls_10 fl_X11_308 tyX11 tyX11_ok nmX11 (by decide) (by decide) rfl rfl rfl rfl rfl (Nat.le_of_ble_eq_true rfl) rfl (fun j hj => ⟨va_up_ne _ _ hj, rfl⟩) rfl K
theorem fl_X11_311 : FLD RX11 311 TX11 31 := tb 832 (by decide +kernel)
theorem fg_X11_311_20 {Γ : CX} {l : Launch} {cc : ByteArray} {nL : Nat} {R : Room} {E : EV} {σ : ST} {pc : Nat} {lv : List (Nat × Value)} {st : List Value} (C : FX Γ l cc nL RX11 R E) (hd : decode cc pc = .ok (.getfield 311, 3)) (K : GW Γ nL E σ (pc + 3) lv (.int (σ.1 20 31) :: st)) : GW Γ nL E σ pc lv (.ref (E.2.1 20) :: st) := g_get C 20 hd cls_10 fl_X11_311 (by decide) (by decide) rfl rfl K
theorem fp_X11_311_20 {Γ : CX} {l : Launch} {cc : ByteArray} {nL : Nat} {R : Room} {E : EV} {σ : ST} {pc : Nat} {lv : List (Nat × Value)} {st : List Value} {x : Int32} {σ' : ST} (C : FX Γ l cc nL RX11 R E) (hd : decode cc pc = .ok (.putfield 311, 3)) (hσ : uI σ 20 31 x = σ') (K : GW Γ nL E σ' (pc + 3) lv st) : GW Γ nL E σ pc lv (.int x :: .ref (E.2.1 20) :: st) := by
  subst hσ
  exact g_put C 20 (uI σ 20 31 x) hd cls_10 fl_X11_311 tyX11 tyX11_ok nmX11 (by decide) (by decide) rfl rfl rfl rfl rfl (Nat.le_of_ble_eq_true rfl) rfl (fun j hj => ⟨va_up_ne _ _ hj, rfl⟩) rfl K
theorem fl_X11_314 : FLD RX11 314 TX11 32 := tb 833 (by decide +kernel)
theorem fg_X11_314_20 {Γ : CX} {l : Launch} {cc : ByteArray} {nL : Nat} {R : Room} {E : EV} {σ : ST} {pc : Nat} {lv : List (Nat × Value)} {st : List Value} (C : FX Γ l cc nL RX11 R E) (hd : decode cc pc = .ok (.getfield 314, 3)) (K : GW Γ nL E σ (pc + 3) lv (.int (σ.1 20 32) :: st)) : GW Γ nL E σ pc lv (.ref (E.2.1 20) :: st) := g_get C 20 hd cls_10 fl_X11_314 (by decide) (by decide) rfl rfl K
theorem fp_X11_314_20 {Γ : CX} {l : Launch} {cc : ByteArray} {nL : Nat} {R : Room} {E : EV} {σ : ST} {pc : Nat} {lv : List (Nat × Value)} {st : List Value} {x : Int32} {σ' : ST} (C : FX Γ l cc nL RX11 R E) (hd : decode cc pc = .ok (.putfield 314, 3)) (hσ : uI σ 20 32 x = σ') (K : GW Γ nL E σ' (pc + 3) lv st) : GW Γ nL E σ pc lv (.int x :: .ref (E.2.1 20) :: st) := by
  subst hσ
  exact g_put C 20 (uI σ 20 32 x) hd cls_10 fl_X11_314 tyX11 tyX11_ok nmX11 (by decide) (by decide) rfl rfl rfl rfl rfl (Nat.le_of_ble_eq_true rfl) rfl (fun j hj => ⟨va_up_ne _ _ hj, rfl⟩) rfl K
theorem fl_X11_317 : FLD RX11 317 TX11 33 := tb 834 (by decide +kernel)
theorem fg_X11_317_20 {Γ : CX} {l : Launch} {cc : ByteArray} {nL : Nat} {R : Room} {E : EV} {σ : ST} {pc : Nat} {lv : List (Nat × Value)} {st : List Value} (C : FX Γ l cc nL RX11 R E) (hd : decode cc pc = .ok (.getfield 317, 3)) (K : GW Γ nL E σ (pc + 3) lv (.int (σ.1 20 33) :: st)) : GW Γ nL E σ pc lv (.ref (E.2.1 20) :: st) := g_get C 20 hd cls_10 fl_X11_317 (by decide) (by decide) rfl rfl K
theorem fp_X11_317_20 {Γ : CX} {l : Launch} {cc : ByteArray} {nL : Nat} {R : Room} {E : EV} {σ : ST} {pc : Nat} {lv : List (Nat × Value)} {st : List Value} {x : Int32} {σ' : ST} (C : FX Γ l cc nL RX11 R E) (hd : decode cc pc = .ok (.putfield 317, 3)) (hσ : uI σ 20 33 x = σ') (K : GW Γ nL E σ' (pc + 3) lv st) : GW Γ nL E σ pc lv (.int x :: .ref (E.2.1 20) :: st) := by
  subst hσ
  exact g_put C 20 (uI σ 20 33 x) hd cls_10 fl_X11_317 tyX11 tyX11_ok nmX11 (by decide) (by decide) rfl rfl rfl rfl rfl (Nat.le_of_ble_eq_true rfl) rfl (fun j hj => ⟨va_up_ne _ _ hj, rfl⟩) rfl K
theorem fl_X11_328 : FLD RX11 328 TX11 39 := tb 840 (by decide +kernel)
theorem fg_X11_328_20 {Γ : CX} {l : Launch} {cc : ByteArray} {nL : Nat} {R : Room} {E : EV} {σ : ST} {pc : Nat} {lv : List (Nat × Value)} {st : List Value} (C : FX Γ l cc nL RX11 R E) (hd : decode cc pc = .ok (.getfield 328, 3)) (K : GW Γ nL E σ (pc + 3) lv (.long (σ.2.1 20 39) :: st)) : GW Γ nL E σ pc lv (.ref (E.2.1 20) :: st) := g_get C 20 hd cls_10 fl_X11_328 (by decide) (by decide) rfl rfl K
theorem fp_X11_328_20 {Γ : CX} {l : Launch} {cc : ByteArray} {nL : Nat} {R : Room} {E : EV} {σ : ST} {pc : Nat} {lv : List (Nat × Value)} {st : List Value} {x : Int64} {σ' : ST} (C : FX Γ l cc nL RX11 R E) (hd : decode cc pc = .ok (.putfield 328, 3)) (hσ : uL σ 20 39 x = σ') (K : GW Γ nL E σ' (pc + 3) lv st) : GW Γ nL E σ pc lv (.long x :: .ref (E.2.1 20) :: st) := by
  subst hσ
  exact g_put C 20 (uL σ 20 39 x) hd cls_10 fl_X11_328 tyX11 tyX11_ok nmX11 (by decide) (by decide) rfl rfl rfl rfl rfl (Nat.le_of_ble_eq_true rfl) rfl (fun j hj => ⟨rfl, va_up_ne _ _ hj⟩) rfl K
theorem k_X11_73 : LKS RX11 73 yX11_in cX11_in 6 (some .boolean) 3 := ⟨⟨tb 929 (by decide +kernel), tb 6 (by decide +kernel), by decide, by decide, tb 927 (by decide +kernel)⟩, tb 928 (by decide +kernel)⟩
theorem k_X11_82 : LKS RX11 82 yX11_kindBy cX11_kindBy 1 (some .int) 1 := ⟨⟨tb 950 (by decide +kernel), tb 6 (by decide +kernel), by decide, by decide, tb 948 (by decide +kernel)⟩, tb 949 (by decide +kernel)⟩
theorem k_X11_86 : LKV RX11 RX11 86 yX11_isCorner cX11_isCorner 2 (some .boolean) 1 := ⟨⟨tb 954 (by decide +kernel), tb 6 (by decide +kernel), by decide, by decide, tb 951 (by decide +kernel)⟩, tb 953 (by decide +kernel), ts 14 (by decide +kernel)⟩
theorem k_X11_98 : LKV RX11 RX11 98 yX11_isStreetLetter cX11_isStreetLetter 3 (some .boolean) 1 := ⟨⟨tb 947 (by decide +kernel), tb 6 (by decide +kernel), by decide, by decide, tb 944 (by decide +kernel)⟩, tb 946 (by decide +kernel), ts 13 (by decide +kernel)⟩
theorem k_X11_101 : LKV RX11 RX11 101 yX11_faultOf cX11_faultOf 3 (some .int) 0 := ⟨⟨tb 941 (by decide +kernel), tb 6 (by decide +kernel), by decide, by decide, tb 938 (by decide +kernel)⟩, tb 940 (by decide +kernel), ts 12 (by decide +kernel)⟩
theorem k_X11_131 : LKV RX11 RX11 131 yX11_isTuneText cX11_isTuneText 3 (some .boolean) 0 := ⟨⟨tb 969 (by decide +kernel), tb 6 (by decide +kernel), by decide, by decide, tb 966 (by decide +kernel)⟩, tb 968 (by decide +kernel), ts 15 (by decide +kernel)⟩
theorem k_X11_141 : LKV RX11 RX11 141 yX11_manyOf cX11_manyOf 2 (some .int) 1 := ⟨⟨tb 982 (by decide +kernel), tb 6 (by decide +kernel), by decide, by decide, tb 979 (by decide +kernel)⟩, tb 981 (by decide +kernel), ts 17 (by decide +kernel)⟩
theorem k_X11_144 : LKS RX11 144 yX11_above cX11_above 2 (some .int) 2 := ⟨⟨tb 998 (by decide +kernel), tb 6 (by decide +kernel), by decide, by decide, tb 996 (by decide +kernel)⟩, tb 997 (by decide +kernel)⟩
theorem k_X11_148 : LKV RX11 RX11 148 yX11_noteAt cX11_noteAt 3 (some .int) 2 := ⟨⟨tb 992 (by decide +kernel), tb 6 (by decide +kernel), by decide, by decide, tb 989 (by decide +kernel)⟩, tb 991 (by decide +kernel), ts 19 (by decide +kernel)⟩
theorem k_X11_151 : LKS RX11 151 yX11_isInScale cX11_isInScale 3 (some .boolean) 2 := ⟨⟨tb 1009 (by decide +kernel), tb 6 (by decide +kernel), by decide, by decide, tb 1007 (by decide +kernel)⟩, tb 1008 (by decide +kernel)⟩
theorem k_X11_155 : LKV RX11 RX11 155 yX11_inKey cX11_inKey 5 (some .int) 2 := ⟨⟨tb 1006 (by decide +kernel), tb 6 (by decide +kernel), by decide, by decide, tb 1003 (by decide +kernel)⟩, tb 1005 (by decide +kernel), ts 21 (by decide +kernel)⟩
theorem k_X11_162 : LKS RX11 162 yX11_tritonesOf cX11_tritonesOf 4 (some .int) 2 := ⟨⟨tb 995 (by decide +kernel), tb 6 (by decide +kernel), by decide, by decide, tb 993 (by decide +kernel)⟩, tb 994 (by decide +kernel)⟩
theorem k_X11_166 : LKV RX11 RX11 166 yX11_keyOf cX11_keyOf 4 (some .int) 1 := ⟨⟨tb 1002 (by decide +kernel), tb 6 (by decide +kernel), by decide, by decide, tb 999 (by decide +kernel)⟩, tb 1001 (by decide +kernel), ts 20 (by decide +kernel)⟩
theorem k_X11_169 : LKV RX11 RX11 169 yX11_notesOf cX11_notesOf 4 (some .int) 1 := ⟨⟨tb 1013 (by decide +kernel), tb 6 (by decide +kernel), by decide, by decide, tb 1010 (by decide +kernel)⟩, tb 1012 (by decide +kernel), ts 22 (by decide +kernel)⟩
theorem k_X11_172 : LKV RX11 RX11 172 yX11_isTune cX11_isTune 2 (some .boolean) 1 := ⟨⟨tb 978 (by decide +kernel), tb 6 (by decide +kernel), by decide, by decide, tb 975 (by decide +kernel)⟩, tb 977 (by decide +kernel), ts 16 (by decide +kernel)⟩
theorem k_X11_175 : LKV RX11 RX11 175 yX11_tellTune cX11_tellTune 3 (some .int) 2 := ⟨⟨tb 986 (by decide +kernel), tb 6 (by decide +kernel), by decide, by decide, tb 983 (by decide +kernel)⟩, tb 985 (by decide +kernel), ts 18 (by decide +kernel)⟩
theorem k_X11_178 : LKS RX11 178 yX11_lowered cX11_lowered 3 (some .int) 2 := ⟨⟨tb 1035 (by decide +kernel), tb 6 (by decide +kernel), by decide, by decide, tb 1033 (by decide +kernel)⟩, tb 1034 (by decide +kernel)⟩
theorem k_X11_181 : LKS RX11 181 yX11_go cX11_go 6 none 4 := ⟨⟨tb 1032 (by decide +kernel), tb 6 (by decide +kernel), by decide, by decide, tb 1030 (by decide +kernel)⟩, tb 1031 (by decide +kernel)⟩
theorem k_X11_185 : LKV RX11 RX11 185 yX11_isStreet cX11_isStreet 2 (some .boolean) 1 := ⟨⟨tb 1021 (by decide +kernel), tb 6 (by decide +kernel), by decide, by decide, tb 1018 (by decide +kernel)⟩, tb 1020 (by decide +kernel), ts 23 (by decide +kernel)⟩
theorem k_X11_188 : LKS RX11 188 yX11_isNote cX11_isNote 1 (some .boolean) 1 := ⟨⟨tb 1024 (by decide +kernel), tb 6 (by decide +kernel), by decide, by decide, tb 1022 (by decide +kernel)⟩, tb 1023 (by decide +kernel)⟩
theorem k_X11_191 : LKV RX11 RX11 191 yX11_comesOut cX11_comesOut 4 (some .int) 3 := ⟨⟨tb 1029 (by decide +kernel), tb 6 (by decide +kernel), by decide, by decide, tb 1026 (by decide +kernel)⟩, tb 1028 (by decide +kernel), ts 24 (by decide +kernel)⟩
theorem k_X11_195 : LKS RX11 195 yX11_copy cX11_copy 3 none 2 := ⟨⟨tb 1054 (by decide +kernel), tb 6 (by decide +kernel), by decide, by decide, tb 1052 (by decide +kernel)⟩, tb 1053 (by decide +kernel)⟩
theorem k_X11_199 : LKV RX11 RX11 199 yX11_goStreet cX11_goStreet 4 none 3 := ⟨⟨tb 1058 (by decide +kernel), tb 6 (by decide +kernel), by decide, by decide, tb 1055 (by decide +kernel)⟩, tb 1057 (by decide +kernel), ts 28 (by decide +kernel)⟩
theorem k_X11_203 : LKS RX11 203 yX11_isAs cX11_isAs 6 (some .boolean) 4 := ⟨⟨tb 1061 (by decide +kernel), tb 6 (by decide +kernel), by decide, by decide, tb 1059 (by decide +kernel)⟩, tb 1060 (by decide +kernel)⟩
theorem k_X11_207 : LKV RX11 RX11 207 yX11_leavesOf cX11_leavesOf 4 (some .int) 1 := ⟨⟨tb 1047 (by decide +kernel), tb 6 (by decide +kernel), by decide, by decide, tb 1044 (by decide +kernel)⟩, tb 1046 (by decide +kernel), ts 26 (by decide +kernel)⟩
theorem k_X11_210 : LKV RX11 RX11 210 yX11_againOf cX11_againOf 3 (some .int) 1 := ⟨⟨tb 1051 (by decide +kernel), tb 6 (by decide +kernel), by decide, by decide, tb 1048 (by decide +kernel)⟩, tb 1050 (by decide +kernel), ts 27 (by decide +kernel)⟩
theorem k_X11_213 : LKV RX11 RX11 213 yX11_tonicsOf cX11_tonicsOf 6 (some .int) 1 := ⟨⟨tb 1065 (by decide +kernel), tb 6 (by decide +kernel), by decide, by decide, tb 1062 (by decide +kernel)⟩, tb 1064 (by decide +kernel), ts 29 (by decide +kernel)⟩
theorem k_X11_216 : LKV RX11 RX11 216 yX11_askOf cX11_askOf 9 (some .int) 1 := ⟨⟨tb 1069 (by decide +kernel), tb 6 (by decide +kernel), by decide, by decide, tb 1066 (by decide +kernel)⟩, tb 1068 (by decide +kernel), ts 30 (by decide +kernel)⟩
theorem k_X11_219 : LKV RX11 RX11 219 yX11_tellStreet cX11_tellStreet 3 (some .int) 2 := ⟨⟨tb 1043 (by decide +kernel), tb 6 (by decide +kernel), by decide, by decide, tb 1040 (by decide +kernel)⟩, tb 1042 (by decide +kernel), ts 25 (by decide +kernel)⟩
theorem k_X11_224 : LKV RX11 RX11 224 yX11_endsAt cX11_endsAt 3 (some .boolean) 2 := ⟨⟨tb 1082 (by decide +kernel), tb 6 (by decide +kernel), by decide, by decide, tb 1079 (by decide +kernel)⟩, tb 1081 (by decide +kernel), ts 31 (by decide +kernel)⟩
theorem k_X11_227 : LKV RX11 RX11 227 yX11_isOpen cX11_isOpen 4 (some .boolean) 3 := ⟨⟨tb 1086 (by decide +kernel), tb 6 (by decide +kernel), by decide, by decide, tb 1083 (by decide +kernel)⟩, tb 1085 (by decide +kernel), ts 32 (by decide +kernel)⟩
theorem k_X11_231 : LKV RX11 RX11 231 yX11_otherEnd cX11_otherEnd 3 (some .int) 2 := ⟨⟨tb 1090 (by decide +kernel), tb 6 (by decide +kernel), by decide, by decide, tb 1087 (by decide +kernel)⟩, tb 1089 (by decide +kernel), ts 33 (by decide +kernel)⟩
theorem k_X11_234 : LKV RX11 RX11 234 yX11_lacks cX11_lacks 1 (some .boolean) 0 := ⟨⟨tb 1098 (by decide +kernel), tb 6 (by decide +kernel), by decide, by decide, tb 1095 (by decide +kernel)⟩, tb 1097 (by decide +kernel), ts 34 (by decide +kernel)⟩
theorem k_X11_237 : LKV RX11 RX11 237 yX11_beginWalk cX11_beginWalk 2 none 0 := ⟨⟨tb 1131 (by decide +kernel), tb 6 (by decide +kernel), by decide, by decide, tb 1128 (by decide +kernel)⟩, tb 1130 (by decide +kernel), ts 38 (by decide +kernel)⟩
theorem k_X11_240 : LKV RX11 RX11 240 yX11_isThere cX11_isThere 4 (some .boolean) 1 := ⟨⟨tb 1135 (by decide +kernel), tb 6 (by decide +kernel), by decide, by decide, tb 1132 (by decide +kernel)⟩, tb 1134 (by decide +kernel), ts 39 (by decide +kernel)⟩
theorem k_X11_243 : LKV RX11 RX11 243 yX11_goOn cX11_goOn 4 (some .boolean) 2 := ⟨⟨tb 1139 (by decide +kernel), tb 6 (by decide +kernel), by decide, by decide, tb 1136 (by decide +kernel)⟩, tb 1138 (by decide +kernel), ts 40 (by decide +kernel)⟩
theorem k_X11_246 : LKV RX11 RX11 246 yX11_layWay cX11_layWay 3 (some .boolean) 1 := ⟨⟨tb 1127 (by decide +kernel), tb 6 (by decide +kernel), by decide, by decide, tb 1124 (by decide +kernel)⟩, tb 1126 (by decide +kernel), ts 37 (by decide +kernel)⟩
theorem k_X11_251 : LKV RX11 RX11 251 yX11_areBoth cX11_areBoth 1 (some .boolean) 0 := ⟨⟨tb 1119 (by decide +kernel), tb 6 (by decide +kernel), by decide, by decide, tb 1116 (by decide +kernel)⟩, tb 1118 (by decide +kernel), ts 35 (by decide +kernel)⟩
theorem k_X11_257 : LKV RX11 RX11 257 yX11_wayOf cX11_wayOf 3 (some .int) 1 := ⟨⟨tb 1123 (by decide +kernel), tb 6 (by decide +kernel), by decide, by decide, tb 1120 (by decide +kernel)⟩, tb 1122 (by decide +kernel), ts 36 (by decide +kernel)⟩
theorem k_X11_263 : LKV RX11 RX11 263 yX11_meet cX11_meet 4 none 1 := ⟨⟨tb 1152 (by decide +kernel), tb 6 (by decide +kernel), by decide, by decide, tb 1149 (by decide +kernel)⟩, tb 1151 (by decide +kernel), ts 42 (by decide +kernel)⟩
theorem k_X11_269 : LKV RX11 RX11 269 yX11_becomeOf cX11_becomeOf 3 (some .int) 1 := ⟨⟨tb 1148 (by decide +kernel), tb 6 (by decide +kernel), by decide, by decide, tb 1145 (by decide +kernel)⟩, tb 1147 (by decide +kernel), ts 41 (by decide +kernel)⟩
theorem k_X11_272 : LKS RX11 272 yX11_apartOf cX11_apartOf 7 (some .int) 4 := ⟨⟨tb 1159 (by decide +kernel), tb 6 (by decide +kernel), by decide, by decide, tb 1157 (by decide +kernel)⟩, tb 1158 (by decide +kernel)⟩
theorem k_X11_276 : LKV RX11 RX11 276 yX11_nearOf cX11_nearOf 5 (some .int) 0 := ⟨⟨tb 1167 (by decide +kernel), tb 6 (by decide +kernel), by decide, by decide, tb 1164 (by decide +kernel)⟩, tb 1166 (by decide +kernel), ts 43 (by decide +kernel)⟩
theorem k_X11_293 : LKV RX11 RX11 293 yX11_endsMany cX11_endsMany 4 (some .int) 1 := ⟨⟨tb 1185 (by decide +kernel), tb 6 (by decide +kernel), by decide, by decide, tb 1182 (by decide +kernel)⟩, tb 1184 (by decide +kernel), ts 44 (by decide +kernel)⟩
theorem k_X11_296 : LKV RX11 RX11 296 yX11_draw cX11_draw 2 (some .int) 1 := ⟨⟨tb 1189 (by decide +kernel), tb 6 (by decide +kernel), by decide, by decide, tb 1186 (by decide +kernel)⟩, tb 1188 (by decide +kernel), ts 45 (by decide +kernel)⟩
theorem k_X11_299 : LKV RX11 RX11 299 yX11_endsNo cX11_endsNo 5 (some .int) 2 := ⟨⟨tb 1197 (by decide +kernel), tb 6 (by decide +kernel), by decide, by decide, tb 1194 (by decide +kernel)⟩, tb 1196 (by decide +kernel), ts 46 (by decide +kernel)⟩
theorem k_X11_320 : LKV RX11 RX11 320 yX11_openMany cX11_openMany 3 (some .int) 0 := ⟨⟨tb 1217 (by decide +kernel), tb 6 (by decide +kernel), by decide, by decide, tb 1214 (by decide +kernel)⟩, tb 1216 (by decide +kernel), ts 48 (by decide +kernel)⟩
theorem k_X11_323 : LKV RX11 RX11 323 yX11_countOf cX11_countOf 2 (some .int) 1 := ⟨⟨tb 1213 (by decide +kernel), tb 6 (by decide +kernel), by decide, by decide, tb 1210 (by decide +kernel)⟩, tb 1212 (by decide +kernel), ts 47 (by decide +kernel)⟩
theorem k_X11_332 : LKV RX11 RX11 332 yX11_say cX11_say 3 none 1 := ⟨⟨tb 1226 (by decide +kernel), tb 6 (by decide +kernel), by decide, by decide, tb 1223 (by decide +kernel)⟩, tb 1225 (by decide +kernel), ts 49 (by decide +kernel)⟩
theorem k_X11_338 : LKV RX11 RX11 338 yX11_sayTune cX11_sayTune 3 none 1 := ⟨⟨tb 1231 (by decide +kernel), tb 6 (by decide +kernel), by decide, by decide, tb 1228 (by decide +kernel)⟩, tb 1230 (by decide +kernel), ts 50 (by decide +kernel)⟩
