abbrev rm_X10_street : Room := { frames := 6, cells := 0, slots := 0, locals := 149 }
set_option maxRecDepth 100000 in
set_option maxHeartbeats 4000000 in
theorem c_X10_street (l : Launch) (E : EV) {σ : ST} {p0 : Int32} {p1 : Int32} {rr : Int32} (hf : f_X10_street σ p0 p1 = some rr) : CT l E yX10_street cX10_street 4 (some .int) rm_X10_street [.ref (E.2.1 0), .int p0, .int p1] σ (some (.int rr)) σ := by
  refine CT.of RX10 rfl (by decide) (Nat.le_of_ble_eq_true rfl) rfl rfl (fun Γ C hR => ?_)
  show GW Γ 4 E σ 0 [(0, .ref (E.2.1 0)), (1, .int p0), (2, .int p1)] []
  rw [f_X10_street] at hf
  refine g_aload_n C 0 dX10_street_0 rfl ?_
  refine fg_X10_27_0 C dX10_street_1 ?_
  refine g_iload_n C 1 dX10_street_4 rfl ?_
  obtain ⟨r2, h1, hf⟩ := o_bind hf
  refine g_callV C 4 (c_X1_at l E h1) cls_1 k_X10_104 ⟨rfl, rfl, Nat.le_of_ble_eq_true rfl, Nat.le_of_ble_eq_true rfl⟩ (by decide) rfl rfl (Nat.le_of_ble_eq_true rfl) dX10_street_5 _ rfl ?_
  refine g_astoreq_n C dX10_street_8 (by decide) [(3, va_rf r2), (0, .ref (E.2.1 0)), (1, .int p0), (2, .int p1)] rfl ?_
  refine g_aloadq_n C 0 dX10_street_9 rfl ?_
  cases r2 with
  | none =>
    replace hf := o_el0 hf
    refine g_ifnonnullN C dX10_street_10 ?_
    refine g_bipush C dX10_street_13 (v := (-101)) (by decide) ?_
    exact g_iretR C hR hf dX10_street_15
  | some a3 =>
    replace hf := o_el1 hf
    refine g_ifnonnullR C dX10_street_10 (tgt := 16) (by decide) ?_
    refine g_iload_n C 3 dX10_street_16 rfl ?_
    by_cases c4 : p1 = 0
    · rw [if_pos c4] at hf
      refine g_tabIn C 0 (tgt := 68) dX10_street_17 c4 (by decide) (by decide) rfl (by decide) ?_
      refine g_aload_n C 0 dX10_street_68 rfl ?_
      obtain ⟨h7, hf⟩ := o_if hf
      obtain ⟨r6, h5, hf⟩ := o_bind hf
      have Kr6 : GW Γ 4 E σ 72 [(3, .ref a3), (0, .ref (E.2.1 0)), (1, .int p0), (2, .int p1)] [.int r6] := by
        exact g_iretR C hR hf dX10_street_72
      rcases h7.2 with hk | hk | hk | hk | hk
      · exact g_callU C (c_X0_kind l E a3 (show f_X0_kind = some r6 from by rw [hk] at h5; exact h5)) cls_0 h7.1 hk ku_X10_108_0 ⟨rfl, rfl, Nat.le_of_ble_eq_true rfl, Nat.le_of_ble_eq_true rfl⟩ rfl (Nat.le_of_ble_eq_true rfl) dX10_street_69 _ rfl Kr6
      · exact g_callU C (c_X2_kind l E a3 (show f_X2_kind = some r6 from by rw [hk] at h5; exact h5)) cls_2 h7.1 hk ku_X10_108_2 ⟨rfl, rfl, Nat.le_of_ble_eq_true rfl, Nat.le_of_ble_eq_true rfl⟩ rfl (Nat.le_of_ble_eq_true rfl) dX10_street_69 _ rfl Kr6
      · exact g_callU C (c_X5_kind l E a3 (show f_X5_kind = some r6 from by rw [hk] at h5; exact h5)) cls_5 h7.1 hk ku_X10_108_5 ⟨rfl, rfl, Nat.le_of_ble_eq_true rfl, Nat.le_of_ble_eq_true rfl⟩ rfl (Nat.le_of_ble_eq_true rfl) dX10_street_69 _ rfl Kr6
      · exact g_callU C (c_X6_kind l E a3 (show f_X6_kind = some r6 from by rw [hk] at h5; exact h5)) cls_6 h7.1 hk ku_X10_108_6 ⟨rfl, rfl, Nat.le_of_ble_eq_true rfl, Nat.le_of_ble_eq_true rfl⟩ rfl (Nat.le_of_ble_eq_true rfl) dX10_street_69 _ rfl Kr6
      · exact g_callU C (c_X7_kind l E a3 (show f_X7_kind = some r6 from by rw [hk] at h5; exact h5)) cls_7 h7.1 hk ku_X10_108_7 ⟨rfl, rfl, Nat.le_of_ble_eq_true rfl, Nat.le_of_ble_eq_true rfl⟩ rfl (Nat.le_of_ble_eq_true rfl) dX10_street_69 _ rfl Kr6
    rw [if_neg c4] at hf
    by_cases c8 : p1 = 1
    · rw [if_pos c8] at hf
      refine g_tabIn C 1 (tgt := 73) dX10_street_17 c8 (by decide) (by decide) rfl (by decide) ?_
      refine g_aload_n C 0 dX10_street_73 rfl ?_
      obtain ⟨h9, hf⟩ := o_if hf
      refine g_one C sf_X10_113 dX10_street_74 h9 ?_
      exact g_iretR C hR hf dX10_street_77
    rw [if_neg c8] at hf
    by_cases c10 : p1 = 2
    · rw [if_pos c10] at hf
      refine g_tabIn C 2 (tgt := 78) dX10_street_17 c10 (by decide) (by decide) rfl (by decide) ?_
      refine g_aload_n C 0 dX10_street_78 rfl ?_
      obtain ⟨h11, hf⟩ := o_if hf
      refine g_other C sf_X10_116 dX10_street_79 h11 ?_
      exact g_iretR C hR hf dX10_street_82
    rw [if_neg c10] at hf
    by_cases c12 : p1 = 3
    · rw [if_pos c12] at hf
      refine g_tabIn C 3 (tgt := 83) dX10_street_17 c12 (by decide) (by decide) rfl (by decide) ?_
      refine g_aload_n C 1 dX10_street_83 rfl ?_
      refine fg_X10_32_0 C dX10_street_84 ?_
      refine g_iload_n C 2 dX10_street_87 rfl ?_
      obtain ⟨r14, h13, hf⟩ := o_bind hf
      refine g_callV C 6 (c_X3_tonic l E h13) cls_3 k_X10_119 ⟨rfl, rfl, Nat.le_of_ble_eq_true rfl, Nat.le_of_ble_eq_true rfl⟩ (by decide) rfl rfl (Nat.le_of_ble_eq_true rfl) dX10_street_88 _ rfl ?_
      exact g_iretR C hR hf dX10_street_91
    rw [if_neg c12] at hf
    by_cases c15 : p1 = 4
    · rw [if_pos c15] at hf
      refine g_tabIn C 4 (tgt := 92) dX10_street_17 c15 (by decide) (by decide) rfl (by decide) ?_
      refine g_aload_n C 0 dX10_street_92 rfl ?_
      refine g_aload_n C 1 dX10_street_93 rfl ?_
      refine fg_X10_32_0 C dX10_street_94 ?_
      refine g_iload_n C 2 dX10_street_97 rfl ?_
      obtain ⟨r17, h16, hf⟩ := o_bind hf
      refine g_callV C 6 (c_X3_tonic l E h16) cls_3 k_X10_119 ⟨rfl, rfl, Nat.le_of_ble_eq_true rfl, Nat.le_of_ble_eq_true rfl⟩ (by decide) rfl rfl (Nat.le_of_ble_eq_true rfl) dX10_street_98 _ rfl ?_
      obtain ⟨h18, hf⟩ := o_if hf
      obtain ⟨r20, h19, hf⟩ := o_bind hf
      refine g_callS C (c_X10_leaves l E a3 h18 h19) k_X10_123 ⟨rfl, rfl, Nat.le_of_ble_eq_true rfl, Nat.le_of_ble_eq_true rfl⟩ rfl (Nat.le_of_ble_eq_true rfl) dX10_street_101 _ rfl ?_
      exact g_iretR C hR hf dX10_street_104
    rw [if_neg c15] at hf
    by_cases c21 : p1 = 5
    · rw [if_pos c21] at hf
      refine g_tabIn C 5 (tgt := 105) dX10_street_17 c21 (by decide) (by decide) rfl (by decide) ?_
      refine g_aload_n C 1 dX10_street_105 rfl ?_
      refine g_aload_n C 0 dX10_street_106 rfl ?_
      refine g_aload_n C 1 dX10_street_107 rfl ?_
      refine fg_X10_32_0 C dX10_street_108 ?_
      refine g_iload_n C 2 dX10_street_111 rfl ?_
      obtain ⟨r23, h22, hf⟩ := o_bind hf
      refine g_callV C 6 (c_X3_tonic l E h22) cls_3 k_X10_119 ⟨rfl, rfl, Nat.le_of_ble_eq_true rfl, Nat.le_of_ble_eq_true rfl⟩ (by decide) rfl rfl (Nat.le_of_ble_eq_true rfl) dX10_street_112 _ rfl ?_
      obtain ⟨h24, hf⟩ := o_if hf
      obtain ⟨r26, h25, hf⟩ := o_bind hf
      refine g_callV C 0 (c_X10_again l E a3 h24 h25) cls_9 k_X10_127 ⟨rfl, rfl, Nat.le_of_ble_eq_true rfl, Nat.le_of_ble_eq_true rfl⟩ (by decide) rfl rfl (Nat.le_of_ble_eq_true rfl) dX10_street_115 _ rfl ?_
      exact g_iretR C hR hf dX10_street_118
    rw [if_neg c21] at hf
    by_cases c27 : p1 = 6
    · rw [if_pos c27] at hf
      refine g_tabIn C 6 (tgt := 119) dX10_street_17 c27 (by decide) (by decide) rfl (by decide) ?_
      refine g_aload_n C 1 dX10_street_119 rfl ?_
      refine g_aload_n C 0 dX10_street_120 rfl ?_
      refine g_iload_n C 2 dX10_street_121 rfl ?_
      obtain ⟨h28, hf⟩ := o_if hf
      obtain ⟨r30, h29, hf⟩ := o_bind hf
      refine g_callV C 0 (c_X10_tonics l E a3 h28 h29) cls_9 k_X10_130 ⟨rfl, rfl, Nat.le_of_ble_eq_true rfl, Nat.le_of_ble_eq_true rfl⟩ (by decide) rfl rfl (Nat.le_of_ble_eq_true rfl) dX10_street_122 _ rfl ?_
      exact g_iretR C hR hf dX10_street_125
    rw [if_neg c27] at hf
    by_cases c31 : p1 = 7
    · rw [if_pos c31] at hf
      refine g_tabIn C 7 (tgt := 126) dX10_street_17 c31 (by decide) (by decide) rfl (by decide) ?_
      refine g_aload_n C 0 dX10_street_126 rfl ?_
      refine g_aload_n C 1 dX10_street_127 rfl ?_
      refine g_aload_n C 0 dX10_street_128 rfl ?_
      refine g_iload_n C 2 dX10_street_129 rfl ?_
      obtain ⟨h32, hf⟩ := o_if hf
      obtain ⟨r34, h33, hf⟩ := o_bind hf
      refine g_callV C 0 (c_X10_tonics l E a3 h32 h33) cls_9 k_X10_130 ⟨rfl, rfl, Nat.le_of_ble_eq_true rfl, Nat.le_of_ble_eq_true rfl⟩ (by decide) rfl rfl (Nat.le_of_ble_eq_true rfl) dX10_street_130 _ rfl ?_
      obtain ⟨r36, h35, hf⟩ := o_bind hf
      refine g_callS C (c_X10_ask l E a3 h32 h35) k_X10_133 ⟨rfl, rfl, Nat.le_of_ble_eq_true rfl, Nat.le_of_ble_eq_true rfl⟩ rfl (Nat.le_of_ble_eq_true rfl) dX10_street_133 _ rfl ?_
      exact g_iretR C hR hf dX10_street_136
    rw [if_neg c31] at hf
    by_cases c37 : p1 = 8
    · rw [if_pos c37] at hf
      refine g_tabIn C 8 (tgt := 137) dX10_street_17 c37 (by decide) (by decide) rfl (by decide) ?_
      refine g_aload_n C 1 dX10_street_137 rfl ?_
      refine fg_X10_32_0 C dX10_street_138 ?_
      refine g_iload_n C 2 dX10_street_141 rfl ?_
      obtain ⟨r39, h38, hf⟩ := o_bind hf
      refine g_callV C 6 (c_X3_walks l E h38) cls_3 k_X10_136 ⟨rfl, rfl, Nat.le_of_ble_eq_true rfl, Nat.le_of_ble_eq_true rfl⟩ (by decide) rfl rfl (Nat.le_of_ble_eq_true rfl) dX10_street_142 _ rfl ?_
      exact g_iretR C hR hf dX10_street_145
    rw [if_neg c37] at hf
    refine g_tabOut (tgt := 146) C dX10_street_17 (by have qc4 := lv_neT c4 (show (0 : Int32).toInt = 0 by decide); have qc8 := lv_neT c8 (show (1 : Int32).toInt = 1 by decide); have qc10 := lv_neT c10 (show (2 : Int32).toInt = 2 by decide); have qc12 := lv_neT c12 (show (3 : Int32).toInt = 3 by decide); have qc15 := lv_neT c15 (show (4 : Int32).toInt = 4 by decide); have qc21 := lv_neT c21 (show (5 : Int32).toInt = 5 by decide); have qc27 := lv_neT c27 (show (6 : Int32).toInt = 6 by decide); have qc31 := lv_neT c31 (show (7 : Int32).toInt = 7 by decide); have qc37 := lv_neT c37 (show (8 : Int32).toInt = 8 by decide); omega) (by decide) ?_
    refine g_bipush C dX10_street_146 (v := (-102)) (by decide) ?_
    exact g_iretR C hR hf dX10_street_148
abbrev rm_X10_as : Room := { frames := 1, cells := 0, slots := 0, locals := 21 }
set_option maxRecDepth 100000 in
set_option maxHeartbeats 4000000 in
theorem c_X10_as (l : Launch) (E : EV) {σ : ST} {p0 : Int32} {p1 : Int32} {rr : Int32} (hf : f_X10_as σ p0 p1 = some rr) : CT l E yX10_as cX10_as 4 (some .int) rm_X10_as [.ref (E.2.1 0), .int p0, .int p1] σ (some (.int rr)) σ := by
  refine CT.of RX10 rfl (by decide) (Nat.le_of_ble_eq_true rfl) rfl rfl (fun Γ C hR => ?_)
  show GW Γ 4 E σ 0 [(0, .ref (E.2.1 0)), (1, .int p0), (2, .int p1)] []
  rw [f_X10_as] at hf
  refine g_aload_n C 0 dX10_as_0 rfl ?_
  refine fg_X10_27_0 C dX10_as_1 ?_
  refine g_iload_n C 1 dX10_as_4 rfl ?_
  obtain ⟨r2, h1, hf⟩ := o_bind hf
  refine g_callV C 4 (c_X1_at l E h1) cls_1 k_X10_104 ⟨rfl, rfl, Nat.le_of_ble_eq_true rfl, Nat.le_of_ble_eq_true rfl⟩ (by decide) rfl rfl (Nat.le_of_ble_eq_true rfl) dX10_as_5 _ rfl ?_
  refine g_astoreq_n C dX10_as_8 (by decide) [(3, va_rf r2), (0, .ref (E.2.1 0)), (1, .int p0), (2, .int p1)] rfl ?_
  refine g_aloadq_n C 0 dX10_as_9 rfl ?_
  cases r2 with
  | none =>
    replace hf := o_el0 hf
    refine g_ifnonnullN C dX10_as_10 ?_
    refine g_bipush C dX10_as_13 (v := (-101)) (by decide) ?_
    exact g_iretR C hR hf dX10_as_15
  | some a3 =>
    replace hf := o_el1 hf
    refine g_ifnonnullR C dX10_as_10 (tgt := 16) (by decide) ?_
    refine g_iload_n C 3 dX10_as_16 rfl ?_
    by_cases c4 : p1 = 0
    · rw [if_pos c4] at hf
      refine g_tabIn C 0 (tgt := 52) dX10_as_17 c4 (by decide) (by decide) rfl (by decide) ?_
      refine g_iload_n C 2 dX10_as_52 rfl ?_
      exact g_iretR C hR hf dX10_as_53
    rw [if_neg c4] at hf
    by_cases c5 : p1 = 1
    · rw [if_pos c5] at hf
      refine g_tabIn C 1 (tgt := 54) dX10_as_17 c5 (by decide) (by decide) rfl (by decide) ?_
      refine g_aload_n C 0 dX10_as_54 rfl ?_
      obtain ⟨h6, hf⟩ := o_if hf
      refine g_inst2 C ic_X10_138 dX10_as_55 h6 ?_
      refine g_if_eq (y := 0) (tgt := 65) C dX10_as_58 (by decide) (fun c7 => ?_) (fun c7 => ?_)
      · rw [if_pos c7] at hf
        refine g_iconst C dX10_as_65 (v := (-1)) (by decide) ?_
        exact g_iretR C hR hf dX10_as_66
      · rw [if_neg c7] at hf
        refine g_iload_n C 2 dX10_as_61 rfl ?_
        refine g_goto (tgt := 66) C dX10_as_62 (by decide) ?_
        exact g_iretR C hR hf dX10_as_66
    rw [if_neg c5] at hf
    by_cases c8 : p1 = 2
    · rw [if_pos c8] at hf
      refine g_tabIn C 2 (tgt := 67) dX10_as_17 c8 (by decide) (by decide) rfl (by decide) ?_
      refine g_aload_n C 0 dX10_as_67 rfl ?_
      obtain ⟨h9, hf⟩ := o_if hf
      refine g_inst0 C ic_X10_140 dX10_as_68 h9 ?_
      refine g_if_eq (y := 0) (tgt := 78) C dX10_as_71 (by decide) (fun c10 => ?_) (fun c10 => ?_)
      · rw [if_pos c10] at hf
        refine g_iconst C dX10_as_78 (v := (-1)) (by decide) ?_
        exact g_iretR C hR hf dX10_as_79
      · rw [if_neg c10] at hf
        refine g_iload_n C 2 dX10_as_74 rfl ?_
        refine g_goto (tgt := 79) C dX10_as_75 (by decide) ?_
        exact g_iretR C hR hf dX10_as_79
    rw [if_neg c8] at hf
    by_cases c11 : p1 = 3
    · rw [if_pos c11] at hf
      refine g_tabIn C 3 (tgt := 80) dX10_as_17 c11 (by decide) (by decide) rfl (by decide) ?_
      refine g_aload_n C 0 dX10_as_80 rfl ?_
      obtain ⟨h12, hf⟩ := o_if hf
      refine g_inst6 C ic_X10_142 dX10_as_81 h12 ?_
      refine g_if_eq (y := 0) (tgt := 91) C dX10_as_84 (by decide) (fun c13 => ?_) (fun c13 => ?_)
      · rw [if_pos c13] at hf
        refine g_iconst C dX10_as_91 (v := (-1)) (by decide) ?_
        exact g_iretR C hR hf dX10_as_92
      · rw [if_neg c13] at hf
        refine g_iload_n C 2 dX10_as_87 rfl ?_
        refine g_goto (tgt := 92) C dX10_as_88 (by decide) ?_
        exact g_iretR C hR hf dX10_as_92
    rw [if_neg c11] at hf
    by_cases c14 : p1 = 4
    · rw [if_pos c14] at hf
      refine g_tabIn C 4 (tgt := 93) dX10_as_17 c14 (by decide) (by decide) rfl (by decide) ?_
      refine g_aload_n C 0 dX10_as_93 rfl ?_
      obtain ⟨h15, hf⟩ := o_if hf
      refine g_inst5 C ic_X10_144 dX10_as_94 h15 ?_
      refine g_if_eq (y := 0) (tgt := 104) C dX10_as_97 (by decide) (fun c16 => ?_) (fun c16 => ?_)
      · rw [if_pos c16] at hf
        refine g_iconst C dX10_as_104 (v := (-1)) (by decide) ?_
        exact g_iretR C hR hf dX10_as_105
      · rw [if_neg c16] at hf
        refine g_iload_n C 2 dX10_as_100 rfl ?_
        refine g_goto (tgt := 105) C dX10_as_101 (by decide) ?_
        exact g_iretR C hR hf dX10_as_105
    rw [if_neg c14] at hf
    refine g_tabOut (tgt := 106) C dX10_as_17 (by have qc4 := lv_neT c4 (show (0 : Int32).toInt = 0 by decide); have qc5 := lv_neT c5 (show (1 : Int32).toInt = 1 by decide); have qc8 := lv_neT c8 (show (2 : Int32).toInt = 2 by decide); have qc11 := lv_neT c11 (show (3 : Int32).toInt = 3 by decide); have qc14 := lv_neT c14 (show (4 : Int32).toInt = 4 by decide); omega) (by decide) ?_
    refine g_bipush C dX10_as_106 (v := (-102)) (by decide) ?_
    exact g_iretR C hR hf dX10_as_108
abbrev rm_X10_comes : Room := { frames := 4, cells := 0, slots := 0, locals := 97 }
set_option maxRecDepth 100000 in
set_option maxHeartbeats 4000000 in
theorem c_X10_comes (l : Launch) (E : EV) {σ : ST} {p0 : Int32} {p1 : Int32} {rr : Int32} (hf : f_X10_comes σ p0 p1 = some rr) : CT l E yX10_comes cX10_comes 4 (some .int) rm_X10_comes [.ref (E.2.1 0), .int p0, .int p1] σ (some (.int rr)) σ := by
  refine CT.of RX10 rfl (by decide) (Nat.le_of_ble_eq_true rfl) rfl rfl (fun Γ C hR => ?_)
  show GW Γ 4 E σ 0 [(0, .ref (E.2.1 0)), (1, .int p0), (2, .int p1)] []
  rw [f_X10_comes] at hf
  refine g_aload_n C 0 dX10_comes_0 rfl ?_
  refine fg_X10_27_0 C dX10_comes_1 ?_
  refine g_iload_n C 1 dX10_comes_4 rfl ?_
  obtain ⟨r2, h1, hf⟩ := o_bind hf
  refine g_callV C 4 (c_X1_at l E h1) cls_1 k_X10_104 ⟨rfl, rfl, Nat.le_of_ble_eq_true rfl, Nat.le_of_ble_eq_true rfl⟩ (by decide) rfl rfl (Nat.le_of_ble_eq_true rfl) dX10_comes_5 _ rfl ?_
  refine g_astoreq_n C dX10_comes_8 (by decide) [(3, va_rf r2), (0, .ref (E.2.1 0)), (1, .int p0), (2, .int p1)] rfl ?_
  refine g_aloadq_n C 0 dX10_comes_9 rfl ?_
  cases r2 with
  | none =>
    replace hf := o_el0 hf
    refine g_ifnonnullN C dX10_comes_10 ?_
    refine g_bipush C dX10_comes_13 (v := (-101)) (by decide) ?_
    exact g_iretR C hR hf dX10_comes_15
  | some a3 =>
    replace hf := o_el1 hf
    refine g_ifnonnullR C dX10_comes_10 (tgt := 16) (by decide) ?_
    refine g_iload_n C 3 dX10_comes_16 rfl ?_
    obtain ⟨r5, h4, hf⟩ := o_bind hf
    refine g_callS C (c_X10_isNote l E h4) k_X10_146 ⟨rfl, rfl, Nat.le_of_ble_eq_true rfl, Nat.le_of_ble_eq_true rfl⟩ rfl (Nat.le_of_ble_eq_true rfl) dX10_comes_17 _ rfl ?_
    refine g_if_ne (y := 0) (tgt := 26) C dX10_comes_20 (by decide) (fun c6 => ?_) (fun c6 => ?_)
    · rw [if_neg c6] at hf
      refine g_aload_n C 0 dX10_comes_26 rfl ?_
      refine g_iload_n C 3 dX10_comes_27 rfl ?_
      refine g_aload_n C 1 dX10_comes_28 rfl ?_
      refine fg_X10_32_0 C dX10_comes_29 ?_
      refine g_iload_n C 2 dX10_comes_32 rfl ?_
      obtain ⟨r8, h7, hf⟩ := o_bind hf
      refine g_callV C 6 (c_X3_tonic l E h7) cls_3 k_X10_119 ⟨rfl, rfl, Nat.le_of_ble_eq_true rfl, Nat.le_of_ble_eq_true rfl⟩ (by decide) rfl rfl (Nat.le_of_ble_eq_true rfl) dX10_comes_33 _ rfl ?_
      obtain ⟨h11, hf⟩ := o_if hf
      obtain ⟨r10, h9, hf⟩ := o_bind hf
      have Kr10 : GW Γ 4 E σ 39 [(3, .ref a3), (0, .ref (E.2.1 0)), (1, .int p0), (2, .int p1)] [.int r10] := by
        exact g_iretR C hR hf dX10_comes_39
      rcases h11.2 with hk | hk | hk | hk | hk
      · exact g_callU C (c_X7_alone l E a3 h11 h9) cls_0 h11.1 hk ku_X10_150_0 ⟨rfl, rfl, Nat.le_of_ble_eq_true rfl, Nat.le_of_ble_eq_true rfl⟩ rfl (Nat.le_of_ble_eq_true rfl) dX10_comes_36 _ rfl Kr10
      · exact g_callU C (c_X7_alone l E a3 h11 h9) cls_2 h11.1 hk ku_X10_150_2 ⟨rfl, rfl, Nat.le_of_ble_eq_true rfl, Nat.le_of_ble_eq_true rfl⟩ rfl (Nat.le_of_ble_eq_true rfl) dX10_comes_36 _ rfl Kr10
      · exact g_callU C (c_X7_alone l E a3 h11 h9) cls_5 h11.1 hk ku_X10_150_5 ⟨rfl, rfl, Nat.le_of_ble_eq_true rfl, Nat.le_of_ble_eq_true rfl⟩ rfl (Nat.le_of_ble_eq_true rfl) dX10_comes_36 _ rfl Kr10
      · exact g_callU C (c_X7_alone l E a3 h11 h9) cls_6 h11.1 hk ku_X10_150_6 ⟨rfl, rfl, Nat.le_of_ble_eq_true rfl, Nat.le_of_ble_eq_true rfl⟩ rfl (Nat.le_of_ble_eq_true rfl) dX10_comes_36 _ rfl Kr10
      · exact g_callU C (c_X7_alone l E a3 h11 h9) cls_7 h11.1 hk ku_X10_150_7 ⟨rfl, rfl, Nat.le_of_ble_eq_true rfl, Nat.le_of_ble_eq_true rfl⟩ rfl (Nat.le_of_ble_eq_true rfl) dX10_comes_36 _ rfl Kr10
    · rw [if_pos c6] at hf
      refine g_bipush C dX10_comes_23 (v := (-102)) (by decide) ?_
      exact g_iretR C hR hf dX10_comes_25
abbrev rm_X10_walk : Room := { frames := 4, cells := 0, slots := 0, locals := 101 }
set_option maxRecDepth 100000 in
set_option maxHeartbeats 4000000 in
theorem c_X10_walk (l : Launch) (E : EV) {σ ss : ST} {p0 : Int32} {rr : Int32} (hf : f_X10_walk p0 σ = some (rr, ss)) : CT l E yX10_walk cX10_walk 3 (some .int) rm_X10_walk [.ref (E.2.1 0), .int p0] σ (some (.int rr)) ss := by
  refine CT.of RX10 rfl (by decide) (Nat.le_of_ble_eq_true rfl) rfl rfl (fun Γ C hR => ?_)
  show GW Γ 3 E σ 0 [(0, .ref (E.2.1 0)), (1, .int p0)] []
  rw [f_X10_walk] at hf
  refine g_aload_n C 0 dX10_walk_0 rfl ?_
  refine fg_X10_27_0 C dX10_walk_1 ?_
  refine g_iload_n C 1 dX10_walk_4 rfl ?_
  obtain ⟨r2, h1, hf⟩ := o_bind hf
  refine g_callV C 4 (c_X1_at l E h1) cls_1 k_X10_104 ⟨rfl, rfl, Nat.le_of_ble_eq_true rfl, Nat.le_of_ble_eq_true rfl⟩ (by decide) rfl rfl (Nat.le_of_ble_eq_true rfl) dX10_walk_5 _ rfl ?_
  refine g_astoreq_n C dX10_walk_8 (by decide) [(2, va_rf r2), (0, .ref (E.2.1 0)), (1, .int p0)] rfl ?_
  refine g_aloadq_n C 0 dX10_walk_9 rfl ?_
  cases r2 with
  | none =>
    replace hf := o_el0 hf
    refine g_ifnonnullN C dX10_walk_10 ?_
    refine g_bipush C dX10_walk_13 (v := (-101)) (by decide) ?_
    exact g_iretW C hR hf dX10_walk_15
  | some a3 =>
    replace hf := o_el1 hf
    refine g_ifnonnullR C dX10_walk_10 (tgt := 16) (by decide) ?_
    refine g_aload_n C 1 dX10_walk_16 rfl ?_
    refine fg_X10_32_0 C dX10_walk_17 ?_
    refine fg_X10_154_6 C dX10_walk_20 ?_
    refine g_lconst C dX10_walk_23 (v := 0) (by decide) ?_
    refine g_lcmp_eq (tgt := 63) C dX10_walk_24 dX10_walk_25 (by decide) (fun c4 => ?_) (fun c4 => ?_)
    · rw [if_pos c4] at hf
      refine g_bipush C dX10_walk_63 (v := (-103)) (by decide) ?_
      exact g_iretW C hR hf dX10_walk_65
    · rw [if_neg c4] at hf
      refine g_aload_n C 0 dX10_walk_28 rfl ?_
      refine g_aload_n C 1 dX10_walk_29 rfl ?_
      refine fg_X10_32_0 C dX10_walk_30 ?_
      refine fg_X10_158_6 C dX10_walk_33 ?_
      obtain ⟨h7, hf⟩ := o_if hf
      obtain ⟨r6, h5, hf⟩ := o_bind hf
      have Kr6 : GW Γ 3 E σ 39 [(2, .ref a3), (0, .ref (E.2.1 0)), (1, .int p0)] [.int r6] := by
        refine g_if_eq (y := 0) (tgt := 63) C dX10_walk_39 (by decide) (fun c8 => ?_) (fun c8 => ?_)
        · rw [if_pos c8] at hf
          refine g_bipush C dX10_walk_63 (v := (-103)) (by decide) ?_
          exact g_iretW C hR hf dX10_walk_65
        · rw [if_neg c8] at hf
          refine g_aload_n C 0 dX10_walk_42 rfl ?_
          refine g_aload_n C 1 dX10_walk_43 rfl ?_
          refine fg_X10_32_0 C dX10_walk_44 ?_
          refine fg_X10_154_6 C dX10_walk_47 ?_
          refine g_aload_n C 1 dX10_walk_50 rfl ?_
          refine fg_X10_32_0 C dX10_walk_51 ?_
          refine fg_X10_164_6 C dX10_walk_54 ?_
          obtain ⟨r10, h9, hf⟩ := o_bind hf
          have Kr10 : GW Γ 3 E σ 60 [(2, .ref a3), (0, .ref (E.2.1 0)), (1, .int p0)] [.int r10] := by
            refine g_if_ne (y := 0) (tgt := 66) C dX10_walk_60 (by decide) (fun c11 => ?_) (fun c11 => ?_)
            · rw [if_neg c11] at hf
              refine g_aload_n C 1 dX10_walk_66 rfl ?_
              refine fg_X10_32_0 C dX10_walk_67 ?_
              refine fg_X10_172_6 C dX10_walk_70 ?_
              refine g_sipush C dX10_walk_73 (v := 999) (by decide) ?_
              refine g_icmp_lt (tgt := 82) C dX10_walk_76 (by decide) (fun c12 => ?_) (fun c12 => ?_)
              · rw [if_pos c12] at hf
                refine g_aload_n C 1 dX10_walk_82 rfl ?_
                refine fg_X10_32_0 C dX10_walk_83 ?_
                refine g_aload_n C 0 dX10_walk_86 rfl ?_
                refine g_aload_n C 1 dX10_walk_87 rfl ?_
                refine fg_X10_32_0 C dX10_walk_88 ?_
                refine fg_X10_154_6 C dX10_walk_91 ?_
                refine g_aload_n C 1 dX10_walk_94 rfl ?_
                refine fg_X10_32_0 C dX10_walk_95 ?_
                refine g_iload_n C 2 dX10_walk_98 rfl ?_
                obtain ⟨r14, h13, hf⟩ := o_bind hf
                refine g_callV C 6 (c_X3_tonic l E h13) cls_3 k_X10_119 ⟨rfl, rfl, Nat.le_of_ble_eq_true rfl, Nat.le_of_ble_eq_true rfl⟩ (by decide) rfl rfl (Nat.le_of_ble_eq_true rfl) dX10_walk_99 _ rfl ?_
                obtain ⟨r16, h15, hf⟩ := o_bind hf
                have Kr16 : GW Γ 3 E σ 105 [(2, .ref a3), (0, .ref (E.2.1 0)), (1, .int p0)] [.long r16, .ref (E.2.1 6)] := by
                  obtain ⟨σ17, hσ17, hf⟩ := o_let hf
                  refine fp_X10_154_6 C dX10_walk_105 hσ17 ?_
                  refine g_aload_n C 1 dX10_walk_108 rfl ?_
                  refine fg_X10_32_0 C dX10_walk_109 ?_
                  refine g_aload_n C 0 dX10_walk_112 rfl ?_
                  refine g_aload_n C 1 dX10_walk_113 rfl ?_
                  refine fg_X10_32_0 C dX10_walk_114 ?_
                  refine fg_X10_158_6 C dX10_walk_117 ?_
                  obtain ⟨h20, hf⟩ := o_if hf
                  obtain ⟨r19, h18, hf⟩ := o_bind hf
                  have Kr19 : GW Γ 3 E σ17 123 [(2, .ref a3), (0, .ref (E.2.1 0)), (1, .int p0)] [.int r19, .ref (E.2.1 6)] := by
                    obtain ⟨σ21, hσ21, hf⟩ := o_let hf
                    refine fp_X10_158_6 C dX10_walk_123 hσ21 ?_
                    refine g_aload_n C 1 dX10_walk_126 rfl ?_
                    refine fg_X10_32_0 C dX10_walk_127 ?_
                    refine g_iload_n C 2 dX10_walk_130 rfl ?_
                    obtain ⟨σ23, h22, hf⟩ := o_bind hf
                    refine g_callV C 6 (c_X3_addWalk l E h22) cls_3 k_X10_182 ⟨rfl, rfl, Nat.le_of_ble_eq_true rfl, Nat.le_of_ble_eq_true rfl⟩ (by decide) rfl rfl (Nat.le_of_ble_eq_true rfl) dX10_walk_131 _ rfl ?_
                    refine g_aload_n C 1 dX10_walk_134 rfl ?_
                    refine fg_X10_32_0 C dX10_walk_135 ?_
                    refine fg_X10_158_6 C dX10_walk_138 ?_
                    exact g_iretW C hR hf dX10_walk_141
                  rcases h20.2 with hk | hk | hk | hk | hk
                  · exact g_callU C (c_X7_across l E a3 h20 h18) cls_0 h20.1 hk ku_X10_179_0 ⟨rfl, rfl, Nat.le_of_ble_eq_true rfl, Nat.le_of_ble_eq_true rfl⟩ rfl (Nat.le_of_ble_eq_true rfl) dX10_walk_120 _ rfl Kr19
                  · exact g_callU C (c_X7_across l E a3 h20 h18) cls_2 h20.1 hk ku_X10_179_2 ⟨rfl, rfl, Nat.le_of_ble_eq_true rfl, Nat.le_of_ble_eq_true rfl⟩ rfl (Nat.le_of_ble_eq_true rfl) dX10_walk_120 _ rfl Kr19
                  · exact g_callU C (c_X7_across l E a3 h20 h18) cls_5 h20.1 hk ku_X10_179_5 ⟨rfl, rfl, Nat.le_of_ble_eq_true rfl, Nat.le_of_ble_eq_true rfl⟩ rfl (Nat.le_of_ble_eq_true rfl) dX10_walk_120 _ rfl Kr19
                  · exact g_callU C (c_X7_across l E a3 h20 h18) cls_6 h20.1 hk ku_X10_179_6 ⟨rfl, rfl, Nat.le_of_ble_eq_true rfl, Nat.le_of_ble_eq_true rfl⟩ rfl (Nat.le_of_ble_eq_true rfl) dX10_walk_120 _ rfl Kr19
                  · exact g_callU C (c_X7_across l E a3 h20 h18) cls_7 h20.1 hk ku_X10_179_7 ⟨rfl, rfl, Nat.le_of_ble_eq_true rfl, Nat.le_of_ble_eq_true rfl⟩ rfl (Nat.le_of_ble_eq_true rfl) dX10_walk_120 _ rfl Kr19
                rcases h7.2 with hk | hk | hk | hk | hk
                · exact g_callU C (c_X7_carry l E a3 h7 h15) cls_0 h7.1 hk ku_X10_175_0 ⟨rfl, rfl, Nat.le_of_ble_eq_true rfl, Nat.le_of_ble_eq_true rfl⟩ rfl (Nat.le_of_ble_eq_true rfl) dX10_walk_102 _ rfl Kr16
                · exact g_callU C (c_X7_carry l E a3 h7 h15) cls_2 h7.1 hk ku_X10_175_2 ⟨rfl, rfl, Nat.le_of_ble_eq_true rfl, Nat.le_of_ble_eq_true rfl⟩ rfl (Nat.le_of_ble_eq_true rfl) dX10_walk_102 _ rfl Kr16
                · exact g_callU C (c_X7_carry l E a3 h7 h15) cls_5 h7.1 hk ku_X10_175_5 ⟨rfl, rfl, Nat.le_of_ble_eq_true rfl, Nat.le_of_ble_eq_true rfl⟩ rfl (Nat.le_of_ble_eq_true rfl) dX10_walk_102 _ rfl Kr16
                · exact g_callU C (c_X7_carry l E a3 h7 h15) cls_6 h7.1 hk ku_X10_175_6 ⟨rfl, rfl, Nat.le_of_ble_eq_true rfl, Nat.le_of_ble_eq_true rfl⟩ rfl (Nat.le_of_ble_eq_true rfl) dX10_walk_102 _ rfl Kr16
                · exact g_callU C (c_X7_carry l E a3 h7 h15) cls_7 h7.1 hk ku_X10_175_7 ⟨rfl, rfl, Nat.le_of_ble_eq_true rfl, Nat.le_of_ble_eq_true rfl⟩ rfl (Nat.le_of_ble_eq_true rfl) dX10_walk_102 _ rfl Kr16
              · rw [if_neg c12] at hf
                refine g_bipush C dX10_walk_79 (v := (-104)) (by decide) ?_
                exact g_iretW C hR hf dX10_walk_81
            · rw [if_pos c11] at hf
              refine g_bipush C dX10_walk_63 (v := (-103)) (by decide) ?_
              exact g_iretW C hR hf dX10_walk_65
          rcases h7.2 with hk | hk | hk | hk | hk
          · exact g_callU C (c_X0_open l E a3 (show f_X0_open (σ.2.1 6 5) (σ.1 6 8) = some r10 from by rw [hk] at h9; exact h9)) cls_0 h7.1 hk ku_X10_168_0 ⟨rfl, rfl, Nat.le_of_ble_eq_true rfl, Nat.le_of_ble_eq_true rfl⟩ rfl (Nat.le_of_ble_eq_true rfl) dX10_walk_57 _ rfl Kr10
          · exact g_callU C (c_X7_open l E a3 (show f_X7_open (σ.2.1 6 5) (σ.1 6 8) = some r10 from by rw [hk] at h9; exact h9)) cls_2 h7.1 hk ku_X10_168_2 ⟨rfl, rfl, Nat.le_of_ble_eq_true rfl, Nat.le_of_ble_eq_true rfl⟩ rfl (Nat.le_of_ble_eq_true rfl) dX10_walk_57 _ rfl Kr10
          · exact g_callU C (c_X7_open l E a3 (show f_X7_open (σ.2.1 6 5) (σ.1 6 8) = some r10 from by rw [hk] at h9; exact h9)) cls_5 h7.1 hk ku_X10_168_5 ⟨rfl, rfl, Nat.le_of_ble_eq_true rfl, Nat.le_of_ble_eq_true rfl⟩ rfl (Nat.le_of_ble_eq_true rfl) dX10_walk_57 _ rfl Kr10
          · exact g_callU C (c_X7_open l E a3 (show f_X7_open (σ.2.1 6 5) (σ.1 6 8) = some r10 from by rw [hk] at h9; exact h9)) cls_6 h7.1 hk ku_X10_168_6 ⟨rfl, rfl, Nat.le_of_ble_eq_true rfl, Nat.le_of_ble_eq_true rfl⟩ rfl (Nat.le_of_ble_eq_true rfl) dX10_walk_57 _ rfl Kr10
          · exact g_callU C (c_X7_open l E a3 (show f_X7_open (σ.2.1 6 5) (σ.1 6 8) = some r10 from by rw [hk] at h9; exact h9)) cls_7 h7.1 hk ku_X10_168_7 ⟨rfl, rfl, Nat.le_of_ble_eq_true rfl, Nat.le_of_ble_eq_true rfl⟩ rfl (Nat.le_of_ble_eq_true rfl) dX10_walk_57 _ rfl Kr10
      rcases h7.2 with hk | hk | hk | hk | hk
      · exact g_callU C (c_X7_endsAt l E a3 h7 h5) cls_0 h7.1 hk ku_X10_161_0 ⟨rfl, rfl, Nat.le_of_ble_eq_true rfl, Nat.le_of_ble_eq_true rfl⟩ rfl (Nat.le_of_ble_eq_true rfl) dX10_walk_36 _ rfl Kr6
      · exact g_callU C (c_X7_endsAt l E a3 h7 h5) cls_2 h7.1 hk ku_X10_161_2 ⟨rfl, rfl, Nat.le_of_ble_eq_true rfl, Nat.le_of_ble_eq_true rfl⟩ rfl (Nat.le_of_ble_eq_true rfl) dX10_walk_36 _ rfl Kr6
      · exact g_callU C (c_X7_endsAt l E a3 h7 h5) cls_5 h7.1 hk ku_X10_161_5 ⟨rfl, rfl, Nat.le_of_ble_eq_true rfl, Nat.le_of_ble_eq_true rfl⟩ rfl (Nat.le_of_ble_eq_true rfl) dX10_walk_36 _ rfl Kr6
      · exact g_callU C (c_X7_endsAt l E a3 h7 h5) cls_6 h7.1 hk ku_X10_161_6 ⟨rfl, rfl, Nat.le_of_ble_eq_true rfl, Nat.le_of_ble_eq_true rfl⟩ rfl (Nat.le_of_ble_eq_true rfl) dX10_walk_36 _ rfl Kr6
      · exact g_callU C (c_X7_endsAt l E a3 h7 h5) cls_7 h7.1 hk ku_X10_161_7 ⟨rfl, rfl, Nat.le_of_ble_eq_true rfl, Nat.le_of_ble_eq_true rfl⟩ rfl (Nat.le_of_ble_eq_true rfl) dX10_walk_36 _ rfl Kr6
abbrev rm_X10_stand : Room := { frames := 0, cells := 0, slots := 0, locals := 0 }
set_option maxRecDepth 100000 in
set_option maxHeartbeats 4000000 in
theorem c_X10_stand (l : Launch) (E : EV) {σ ss : ST} {p0 : Int32} {rr : Int32} (hf : f_X10_stand p0 σ = some (rr, ss)) : CT l E yX10_stand cX10_stand 3 (some .int) rm_X10_stand [.ref (E.2.1 0), .int p0] σ (some (.int rr)) ss := by
  refine CT.of RX10 rfl (by decide) (Nat.le_of_ble_eq_true rfl) rfl rfl (fun Γ C hR => ?_)
  show GW Γ 3 E σ 0 [(0, .ref (E.2.1 0)), (1, .int p0)] []
  rw [f_X10_stand] at hf
  refine g_iload_n C 1 dX10_stand_0 rfl ?_
  refine g_if_lt (y := 0) (tgt := 15) C dX10_stand_1 (by decide) (fun c1 => ?_) (fun c1 => ?_)
  · rw [if_pos c1] at hf
    refine g_bipush C dX10_stand_15 (v := (-101)) (by decide) ?_
    exact g_iretW C hR hf dX10_stand_17
  · rw [if_neg c1] at hf
    refine g_iload_n C 1 dX10_stand_4 rfl ?_
    refine g_aload_n C 0 dX10_stand_5 rfl ?_
    refine fg_X10_27_0 C dX10_stand_6 ?_
    refine fg_X10_185_4 C dX10_stand_9 ?_
    refine g_icmp_lt (tgt := 18) C dX10_stand_12 (by decide) (fun c2 => ?_) (fun c2 => ?_)
    · rw [if_pos c2] at hf
      refine g_aload_n C 0 dX10_stand_18 rfl ?_
      refine fg_X10_32_0 C dX10_stand_19 ?_
      refine fg_X10_158_6 C dX10_stand_22 ?_
      obtain ⟨x3, hx3, hf⟩ := o_let hf
      refine g_topi hx3 ?_
      refine g_istore_n C dX10_stand_25 (by decide) [(2, .int x3), (0, .ref (E.2.1 0)), (1, .int p0)] rfl ?_
      refine g_aload_n C 1 dX10_stand_26 rfl ?_
      refine fg_X10_32_0 C dX10_stand_27 ?_
      refine g_iload_n C 2 dX10_stand_30 rfl ?_
      obtain ⟨σ4, hσ4, hf⟩ := o_let hf
      refine fp_X10_158_6 C dX10_stand_31 hσ4 ?_
      refine g_iload_n C 0 dX10_stand_34 rfl ?_
      exact g_iretW C hR hf dX10_stand_35
    · rw [if_neg c2] at hf
      refine g_bipush C dX10_stand_15 (v := (-101)) (by decide) ?_
      exact g_iretW C hR hf dX10_stand_17
abbrev rm_X10_dusk : Room := { frames := 1, cells := 0, slots := 0, locals := 20 }
set_option maxRecDepth 100000 in
set_option maxHeartbeats 4000000 in
theorem t_X10_dusk_B29 {Γ : CX} {l : Launch} {E : EV} {rr : Int32} {ss : ST} (C : FX Γ l cX10_dusk 1 RX10 rm_X10_dusk E) (hR : RT Γ (some .int) E (some (.int rr)) ss) (s0 : Int32) (σ : ST) (hf : f_X10_dusk_B29 s0 σ = some (rr, ss)) : GW Γ 1 E σ 29 [(0, .ref (E.2.1 0))] [.int s0, .ref (E.2.1 6)] := by
  rw [f_X10_dusk_B29] at hf
  obtain ⟨h7, hf⟩ := o_if hf
  obtain ⟨σ6, hσ6, hf⟩ := o_let hf
  refine fp_X10_164_6 C dX10_dusk_29 h7 hσ6 ?_
  refine g_aload_n C 0 dX10_dusk_32 rfl ?_
  refine fg_X10_32_0 C dX10_dusk_33 ?_
  refine fg_X10_164_6 C dX10_dusk_36 ?_
  refine g_if_eq (y := 0) (tgt := 46) C dX10_dusk_39 (by decide) (fun c8 => ?_) (fun c8 => ?_)
  · rw [if_pos c8] at hf
    refine g_iconst C dX10_dusk_46 (v := 0) (by decide) ?_
    exact g_iretW C hR hf dX10_dusk_47
  · rw [if_neg c8] at hf
    refine g_iconst C dX10_dusk_42 (v := 1) (by decide) ?_
    refine g_goto (tgt := 47) C dX10_dusk_43 (by decide) ?_
    exact g_iretW C hR hf dX10_dusk_47
set_option maxRecDepth 100000 in
set_option maxHeartbeats 4000000 in
theorem c_X10_dusk (l : Launch) (E : EV) {σ ss : ST} {rr : Int32} (hf : f_X10_dusk σ = some (rr, ss)) : CT l E yX10_dusk cX10_dusk 1 (some .int) rm_X10_dusk [.ref (E.2.1 0)] σ (some (.int rr)) ss := by
  refine CT.of RX10 rfl (by decide) (Nat.le_of_ble_eq_true rfl) rfl rfl (fun Γ C hR => ?_)
  show GW Γ 1 E σ 0 [(0, .ref (E.2.1 0))] []
  rw [f_X10_dusk] at hf
  refine g_aload_n C 0 dX10_dusk_0 rfl ?_
  obtain ⟨r2, h1, hf⟩ := o_bind hf
  refine g_callV C 0 (c_X10_noCity l E h1) cls_9 k_X10_188 ⟨rfl, rfl, Nat.le_of_ble_eq_true rfl, Nat.le_of_ble_eq_true rfl⟩ (by decide) rfl rfl (Nat.le_of_ble_eq_true rfl) dX10_dusk_1 _ rfl ?_
  refine g_if_eq (y := 0) (tgt := 10) C dX10_dusk_4 (by decide) (fun c3 => ?_) (fun c3 => ?_)
  · rw [if_pos c3] at hf
    refine g_aload_n C 0 dX10_dusk_10 rfl ?_
    refine fg_X10_32_0 C dX10_dusk_11 ?_
    refine g_aload_n C 0 dX10_dusk_14 rfl ?_
    refine fg_X10_32_0 C dX10_dusk_15 ?_
    refine fg_X10_164_6 C dX10_dusk_18 ?_
    obtain ⟨x4, ex4, hf⟩ := o_let hf
    have Kx4 : GW Γ 1 E σ 29 [(0, .ref (E.2.1 0))] [.int x4, .ref (E.2.1 6)] := by
      exact t_X10_dusk_B29 C hR x4 σ hf
    refine g_if_ne (y := 0) (tgt := 28) C dX10_dusk_21 (by decide) (fun c5 => ?_) (fun c5 => ?_)
    · rw [if_neg c5] at ex4
      refine g_iconst C dX10_dusk_28 (v := 0) (by decide) ?_
      rw [← ex4] at Kx4
      exact g_lv [(0, .ref (E.2.1 0))] [0] rfl Kx4
    · rw [if_pos c5] at ex4
      refine g_iconst C dX10_dusk_24 (v := 1) (by decide) ?_
      refine g_goto (tgt := 29) C dX10_dusk_25 (by decide) ?_
      rw [← ex4] at Kx4
      exact g_lv [(0, .ref (E.2.1 0))] [0] rfl Kx4
  · rw [if_neg c3] at hf
    refine g_bipush C dX10_dusk_7 (v := (-103)) (by decide) ?_
    exact g_iretW C hR hf dX10_dusk_9
abbrev rm_X10_sing : Room := { frames := 1, cells := 0, slots := 0, locals := 24 }
set_option maxRecDepth 100000 in
set_option maxHeartbeats 4000000 in
theorem c_X10_sing (l : Launch) (E : EV) {σ ss : ST} {p0 : Int32} {p1 : Int32} {p2 : Int32} {rr : Int32} (hf : f_X10_sing p0 p1 p2 σ = some (rr, ss)) : CT l E yX10_sing cX10_sing 7 (some .int) rm_X10_sing [.ref (E.2.1 0), .int p0, .int p1, .int p2] σ (some (.int rr)) ss := by
  refine CT.of RX10 rfl (by decide) (Nat.le_of_ble_eq_true rfl) rfl rfl (fun Γ C hR => ?_)
  show GW Γ 7 E σ 0 [(0, .ref (E.2.1 0)), (1, .int p0), (2, .int p1), (3, .int p2)] []
  rw [f_X10_sing] at hf
  refine g_aload_n C 0 dX10_sing_0 rfl ?_
  refine fg_X10_32_0 C dX10_sing_1 ?_
  refine g_iload_n C 1 dX10_sing_4 rfl ?_
  obtain ⟨r2, h1, hf⟩ := o_bind hf
  refine g_callV C 6 (c_X3_tuneOf l E h1) cls_3 k_X10_84 ⟨rfl, rfl, Nat.le_of_ble_eq_true rfl, Nat.le_of_ble_eq_true rfl⟩ (by decide) rfl rfl (Nat.le_of_ble_eq_true rfl) dX10_sing_5 _ rfl ?_
  refine g_lstore C dX10_sing_8 (by decide) [(4, .long r2), (0, .ref (E.2.1 0)), (1, .int p0), (2, .int p1), (3, .int p2)] rfl ?_
  refine g_lload C 0 dX10_sing_10 rfl ?_
  refine g_iload_n C 3 dX10_sing_12 rfl ?_
  obtain ⟨r4, h3, hf⟩ := o_bind hf
  refine g_callS C (c_X8_note l E h3) k_X10_101 ⟨rfl, rfl, Nat.le_of_ble_eq_true rfl, Nat.le_of_ble_eq_true rfl⟩ rfl (Nat.le_of_ble_eq_true rfl) dX10_sing_13 _ rfl ?_
  refine g_istore C dX10_sing_16 (by decide) [(6, .int r4), (4, .long r2), (0, .ref (E.2.1 0)), (1, .int p0), (2, .int p1), (3, .int p2)] rfl ?_
  refine g_iload C 0 dX10_sing_18 rfl ?_
  refine g_iconst C dX10_sing_20 (v := (-1)) (by decide) ?_
  refine g_icmp_ne (tgt := 27) C dX10_sing_21 (by decide) (fun c5 => ?_) (fun c5 => ?_)
  · rw [if_neg c5] at hf
    refine g_iload_n C 5 dX10_sing_27 rfl ?_
    obtain ⟨r7, h6, hf⟩ := o_bind hf
    refine g_callS C (c_X10_isNote l E h6) k_X10_146 ⟨rfl, rfl, Nat.le_of_ble_eq_true rfl, Nat.le_of_ble_eq_true rfl⟩ rfl (Nat.le_of_ble_eq_true rfl) dX10_sing_28 _ rfl ?_
    refine g_if_ne (y := 0) (tgt := 37) C dX10_sing_31 (by decide) (fun c8 => ?_) (fun c8 => ?_)
    · rw [if_neg c8] at hf
      refine g_aload_n C 2 dX10_sing_37 rfl ?_
      refine fg_X10_32_0 C dX10_sing_38 ?_
      refine g_iload_n C 3 dX10_sing_41 rfl ?_
      refine g_lload C 1 dX10_sing_42 rfl ?_
      refine g_iload_n C 4 dX10_sing_44 rfl ?_
      refine g_iload_n C 5 dX10_sing_45 rfl ?_
      obtain ⟨r10, h9, hf⟩ := o_bind hf
      refine g_callS C (c_X8_with l E h9) k_X10_191 ⟨rfl, rfl, Nat.le_of_ble_eq_true rfl, Nat.le_of_ble_eq_true rfl⟩ rfl (Nat.le_of_ble_eq_true rfl) dX10_sing_46 _ rfl ?_
      obtain ⟨σ12, h11, hf⟩ := o_bind hf
      refine g_callV C 6 (c_X3_setTune l E h11) cls_3 k_X10_75 ⟨rfl, rfl, Nat.le_of_ble_eq_true rfl, Nat.le_of_ble_eq_true rfl⟩ (by decide) rfl rfl (Nat.le_of_ble_eq_true rfl) dX10_sing_49 _ rfl ?_
      refine g_iload C 0 dX10_sing_52 rfl ?_
      exact g_iretW C hR hf dX10_sing_54
    · rw [if_pos c8] at hf
      refine g_bipush C dX10_sing_34 (v := (-102)) (by decide) ?_
      exact g_iretW C hR hf dX10_sing_36
  · rw [if_pos c5] at hf
    refine g_bipush C dX10_sing_24 (v := (-101)) (by decide) ?_
    exact g_iretW C hR hf dX10_sing_26
abbrev rm_X10_raise : Room := { frames := 1, cells := 0, slots := 0, locals := 22 }
set_option maxRecDepth 100000 in
set_option maxHeartbeats 4000000 in
theorem c_X10_raise (l : Launch) (E : EV) {σ ss : ST} {p0 : Int32} {p1 : Int32} {rr : Int32} (hf : f_X10_raise p0 p1 σ = some (rr, ss)) : CT l E yX10_raise cX10_raise 4 (some .int) rm_X10_raise [.ref (E.2.1 0), .int p0, .int p1] σ (some (.int rr)) ss := by
  refine CT.of RX10 rfl (by decide) (Nat.le_of_ble_eq_true rfl) rfl rfl (fun Γ C hR => ?_)
  show GW Γ 4 E σ 0 [(0, .ref (E.2.1 0)), (1, .int p0), (2, .int p1)] []
  rw [f_X10_raise] at hf
  refine g_aload_n C 0 dX10_raise_0 rfl ?_
  refine fg_X10_27_0 C dX10_raise_1 ?_
  refine g_iload_n C 1 dX10_raise_4 rfl ?_
  obtain ⟨r2, h1, hf⟩ := o_bind hf
  refine g_callV C 4 (c_X1_at l E h1) cls_1 k_X10_104 ⟨rfl, rfl, Nat.le_of_ble_eq_true rfl, Nat.le_of_ble_eq_true rfl⟩ (by decide) rfl rfl (Nat.le_of_ble_eq_true rfl) dX10_raise_5 _ rfl ?_
  cases r2 with
  | none =>
    replace hf := o_el0 hf
    refine g_ifnonnullN C dX10_raise_8 ?_
    refine g_bipush C dX10_raise_11 (v := (-101)) (by decide) ?_
    exact g_iretW C hR hf dX10_raise_13
  | some a3 =>
    replace hf := o_el1 hf
    refine g_ifnonnullR C dX10_raise_8 (tgt := 14) (by decide) ?_
    refine g_iload_n C 2 dX10_raise_14 rfl ?_
    obtain ⟨r5, h4, hf⟩ := o_bind hf
    refine g_callS C (c_X10_isNote l E h4) k_X10_146 ⟨rfl, rfl, Nat.le_of_ble_eq_true rfl, Nat.le_of_ble_eq_true rfl⟩ rfl (Nat.le_of_ble_eq_true rfl) dX10_raise_15 _ rfl ?_
    refine g_if_ne (y := 0) (tgt := 24) C dX10_raise_18 (by decide) (fun c6 => ?_) (fun c6 => ?_)
    · rw [if_neg c6] at hf
      refine g_aload_n C 0 dX10_raise_24 rfl ?_
      refine fg_X10_32_0 C dX10_raise_25 ?_
      refine g_iload_n C 1 dX10_raise_28 rfl ?_
      obtain ⟨r8, h7, hf⟩ := o_bind hf
      refine g_callV C 6 (c_X3_tonic l E h7) cls_3 k_X10_119 ⟨rfl, rfl, Nat.le_of_ble_eq_true rfl, Nat.le_of_ble_eq_true rfl⟩ (by decide) rfl rfl (Nat.le_of_ble_eq_true rfl) dX10_raise_29 _ rfl ?_
      refine g_istore_n C dX10_raise_32 (by decide) [(3, .int r8), (0, .ref (E.2.1 0)), (1, .int p0), (2, .int p1)] rfl ?_
      refine g_aload_n C 1 dX10_raise_33 rfl ?_
      refine fg_X10_32_0 C dX10_raise_34 ?_
      refine g_iload_n C 2 dX10_raise_37 rfl ?_
      refine g_iload_n C 3 dX10_raise_38 rfl ?_
      obtain ⟨σ10, h9, hf⟩ := o_bind hf
      refine g_callV C 6 (c_X3_setTonic l E h9) cls_3 k_X10_195 ⟨rfl, rfl, Nat.le_of_ble_eq_true rfl, Nat.le_of_ble_eq_true rfl⟩ (by decide) rfl rfl (Nat.le_of_ble_eq_true rfl) dX10_raise_39 _ rfl ?_
      refine g_iload_n C 0 dX10_raise_42 rfl ?_
      exact g_iretW C hR hf dX10_raise_43
    · rw [if_pos c6] at hf
      refine g_bipush C dX10_raise_21 (v := (-102)) (by decide) ?_
      exact g_iretW C hR hf dX10_raise_23
abbrev rm_X10_way : Room := { frames := 38, cells := 0, slots := 0, locals := 961 }
set_option maxRecDepth 100000 in
set_option maxHeartbeats 4000000 in
theorem t_X10_way_B34 {Γ : CX} {l : Launch} {E : EV} {rr : Int32} {ss : ST} (C : FX Γ l cX10_way 4 RX10 rm_X10_way E) (hR : RT Γ (some .int) E (some (.int rr)) ss) (v1 : Int32) (σ : ST) (hf : f_X10_way_B34 v1 σ = some (rr, ss)) : GW Γ 4 E σ 34 [(0, .ref (E.2.1 0)), (1, .int v1)] [] := by
  rw [f_X10_way_B34] at hf
  refine g_aload_n C 0 dX10_way_34 rfl ?_
  obtain ⟨r6, h5, hf⟩ := o_bind hf
  refine g_callV C 0 (c_X10_noCity l E h5) cls_9 k_X10_188 ⟨rfl, rfl, Nat.le_of_ble_eq_true rfl, Nat.le_of_ble_eq_true rfl⟩ (by decide) rfl rfl (Nat.le_of_ble_eq_true rfl) dX10_way_35 _ rfl ?_
  refine g_if_ne (y := 0) (tgt := 57) C dX10_way_38 (by decide) (fun c7 => ?_) (fun c7 => ?_)
  · rw [if_neg c7] at hf
    refine g_bipush C dX10_way_57 (v := (-103)) (by decide) ?_
    exact g_iretW C hR hf dX10_way_59
  · rw [if_pos c7] at hf
    refine g_aload_n C 0 dX10_way_41 rfl ?_
    obtain ⟨r9, h8, hf⟩ := o_bind hf
    refine g_callV C 0 (c_X10_noTunes l E h8) cls_9 k_X10_199 ⟨rfl, rfl, Nat.le_of_ble_eq_true rfl, Nat.le_of_ble_eq_true rfl⟩ (by decide) rfl rfl (Nat.le_of_ble_eq_true rfl) dX10_way_42 _ rfl ?_
    refine g_if_ne (y := 0) (tgt := 57) C dX10_way_45 (by decide) (fun c10 => ?_) (fun c10 => ?_)
    · rw [if_neg c10] at hf
      refine g_bipush C dX10_way_57 (v := (-103)) (by decide) ?_
      exact g_iretW C hR hf dX10_way_59
    · rw [if_pos c10] at hf
      refine g_aload_n C 0 dX10_way_48 rfl ?_
      refine fg_X10_202_0 C dX10_way_49 ?_
      refine g_bipush C dX10_way_52 (v := 16) (by decide) ?_
      refine g_icmp_lt (tgt := 60) C dX10_way_54 (by decide) (fun c11 => ?_) (fun c11 => ?_)
      · rw [if_pos c11] at hf
        refine g_aload_n C 0 dX10_way_60 rfl ?_
        refine g_dup C dX10_way_61 rfl ?_
        refine fg_X10_202_0 C dX10_way_62 ?_
        refine g_iconst C dX10_way_65 (v := 1) (by decide) ?_
        refine g_iadd C dX10_way_66 ?_
        obtain ⟨σ12, hσ12, hf⟩ := o_let hf
        refine fp_X10_202_0 C dX10_way_67 hσ12 ?_
        refine g_aload_n C 0 dX10_way_70 rfl ?_
        refine fg_X10_19_0 C dX10_way_71 ?_
        obtain ⟨r15, σ14, h13, hf⟩ := o_bind2 hf
        refine g_callV C 3 (c_X9_findWay l E h13) cls_8 k_X10_205 ⟨rfl, rfl, Nat.le_of_ble_eq_true rfl, Nat.le_of_ble_eq_true rfl⟩ (by decide) rfl rfl (Nat.le_of_ble_eq_true rfl) dX10_way_74 _ rfl ?_
        refine g_istore_n C dX10_way_77 (by decide) [(3, .int r15), (0, .ref (E.2.1 0)), (1, .int v1)] rfl ?_
        refine g_iload_n C 0 dX10_way_78 rfl ?_
        refine g_iconst C dX10_way_79 (v := (-1)) (by decide) ?_
        refine g_icmp_eq (tgt := 87) C dX10_way_80 (by decide) (fun c16 => ?_) (fun c16 => ?_)
        · rw [if_pos c16] at hf
          refine g_iload_n C 0 dX10_way_87 rfl ?_
          exact g_iretW C hR hf dX10_way_88
        · rw [if_neg c16] at hf
          refine g_iload_n C 2 dX10_way_83 rfl ?_
          refine g_if_ne (y := 0) (tgt := 89) C dX10_way_84 (by decide) (fun c17 => ?_) (fun c17 => ?_)
          · rw [if_neg c17] at hf
            refine g_iload_n C 2 dX10_way_89 rfl ?_
            refine g_iconst C dX10_way_90 (v := 1) (by decide) ?_
            refine g_icmp_ne (tgt := 104) C dX10_way_91 (by decide) (fun c18 => ?_) (fun c18 => ?_)
            · rw [if_neg c18] at hf
              refine g_aload_n C 1 dX10_way_104 rfl ?_
              refine fg_X10_19_0 C dX10_way_105 ?_
              refine g_iload_n C 2 dX10_way_108 rfl ?_
              refine g_bipush C dX10_way_109 (v := 10) (by decide) ?_
              refine g_isub C dX10_way_111 ?_
              refine g_iload_n C 0 dX10_way_112 rfl ?_
              obtain ⟨r20, h19, hf⟩ := o_bind hf
              refine g_callV C 3 (c_X9_wayStreet l E h19) cls_8 k_X10_211 ⟨rfl, rfl, Nat.le_of_ble_eq_true rfl, Nat.le_of_ble_eq_true rfl⟩ (by decide) rfl rfl (Nat.le_of_ble_eq_true rfl) dX10_way_113 _ rfl ?_
              exact g_iretW C hR hf dX10_way_116
            · rw [if_pos c18] at hf
              refine g_aload_n C 1 dX10_way_94 rfl ?_
              refine fg_X10_19_0 C dX10_way_95 ?_
              refine fg_X10_208_3 C dX10_way_98 ?_
              refine g_goto (tgt := 116) C dX10_way_101 (by decide) ?_
              exact g_iretW C hR hf dX10_way_116
          · rw [if_pos c17] at hf
            refine g_iload_n C 0 dX10_way_87 rfl ?_
            exact g_iretW C hR hf dX10_way_88
      · rw [if_neg c11] at hf
        refine g_bipush C dX10_way_57 (v := (-103)) (by decide) ?_
        exact g_iretW C hR hf dX10_way_59
set_option maxRecDepth 100000 in
set_option maxHeartbeats 4000000 in
theorem t_X10_way_B17 {Γ : CX} {l : Launch} {E : EV} {rr : Int32} {ss : ST} (C : FX Γ l cX10_way 4 RX10 rm_X10_way E) (hR : RT Γ (some .int) E (some (.int rr)) ss) (v1 : Int32) (s0 : Int32) (σ : ST) (hf : f_X10_way_B17 v1 s0 σ = some (rr, ss)) : GW Γ 4 E σ 17 [(0, .ref (E.2.1 0)), (1, .int v1)] [.int s0] := by
  rw [f_X10_way_B17] at hf
  refine g_istore_n C dX10_way_17 (by decide) [(2, .int s0), (0, .ref (E.2.1 0)), (1, .int v1)] rfl ?_
  refine g_iload_n C 2 dX10_way_18 rfl ?_
  refine g_if_eq (y := 0) (tgt := 34) C dX10_way_19 (by decide) (fun c4 => ?_) (fun c4 => ?_)
  · rw [if_pos c4] at hf
    exact g_lv [(0, .ref (E.2.1 0)), (1, .int v1)] [1, 2] rfl (t_X10_way_B34 C hR v1 σ hf)
  · rw [if_neg c4] at hf
    refine g_iload_n C 2 dX10_way_22 rfl ?_
    refine g_iconst C dX10_way_23 (v := 1) (by decide) ?_
    refine g_icmp_eq (tgt := 34) C dX10_way_24 (by decide) (fun c21 => ?_) (fun c21 => ?_)
    · rw [if_pos c21] at hf
      exact g_lv [(0, .ref (E.2.1 0)), (1, .int v1)] [1, 2] rfl (t_X10_way_B34 C hR v1 σ hf)
    · rw [if_neg c21] at hf
      refine g_iload_n C 0 dX10_way_27 rfl ?_
      refine g_if_ne (y := 0) (tgt := 34) C dX10_way_28 (by decide) (fun c22 => ?_) (fun c22 => ?_)
      · rw [if_neg c22] at hf
        exact g_lv [(0, .ref (E.2.1 0)), (1, .int v1)] [1, 2] rfl (t_X10_way_B34 C hR v1 σ hf)
      · rw [if_pos c22] at hf
        refine g_bipush C dX10_way_31 (v := (-102)) (by decide) ?_
        exact g_iretW C hR hf dX10_way_33
set_option maxRecDepth 100000 in
set_option maxHeartbeats 4000000 in
theorem c_X10_way (l : Launch) (E : EV) {σ ss : ST} {p0 : Int32} {rr : Int32} (hf : f_X10_way p0 σ = some (rr, ss)) : CT l E yX10_way cX10_way 4 (some .int) rm_X10_way [.ref (E.2.1 0), .int p0] σ (some (.int rr)) ss := by
  refine CT.of RX10 rfl (by decide) (Nat.le_of_ble_eq_true rfl) rfl rfl (fun Γ C hR => ?_)
  show GW Γ 4 E σ 0 [(0, .ref (E.2.1 0)), (1, .int p0)] []
  rw [f_X10_way] at hf
  refine g_iload_n C 1 dX10_way_0 rfl ?_
  refine g_bipush C dX10_way_1 (v := 10) (by decide) ?_
  obtain ⟨x1, ex1, hf⟩ := o_let hf
  have Kx1 : GW Γ 4 E σ 17 [(0, .ref (E.2.1 0)), (1, .int p0)] [.int x1] := by
    exact t_X10_way_B17 C hR p0 x1 σ hf
  refine g_icmp_lt (tgt := 16) C dX10_way_3 (by decide) (fun c2 => ?_) (fun c2 => ?_)
  · rw [if_pos c2] at ex1
    refine g_iconst C dX10_way_16 (v := 0) (by decide) ?_
    rw [← ex1] at Kx1
    exact g_lv [(0, .ref (E.2.1 0)), (1, .int p0)] [0, 1] rfl Kx1
  · rw [if_neg c2] at ex1
    refine g_iload_n C 1 dX10_way_6 rfl ?_
    refine g_bipush C dX10_way_7 (v := 15) (by decide) ?_
    refine g_icmp_ge (tgt := 16) C dX10_way_9 (by decide) (fun c3 => ?_) (fun c3 => ?_)
    · rw [if_pos c3] at ex1
      refine g_iconst C dX10_way_16 (v := 0) (by decide) ?_
      rw [← ex1] at Kx1
      exact g_lv [(0, .ref (E.2.1 0)), (1, .int p0)] [0, 1] rfl Kx1
    · rw [if_neg c3] at ex1
      refine g_iconst C dX10_way_12 (v := 1) (by decide) ?_
      refine g_goto (tgt := 17) C dX10_way_13 (by decide) ?_
      rw [← ex1] at Kx1
      exact g_lv [(0, .ref (E.2.1 0)), (1, .int p0)] [0, 1] rfl Kx1
abbrev rm_X10_become : Room := { frames := 38, cells := 0, slots := 0, locals := 957 }
set_option maxRecDepth 100000 in
set_option maxHeartbeats 4000000 in
theorem c_X10_become (l : Launch) (E : EV) {σ ss : ST} {p0 : Int32} {rr : Int32} (hf : f_X10_become p0 σ = some (rr, ss)) : CT l E yX10_become cX10_become 2 (some .int) rm_X10_become [.ref (E.2.1 0), .int p0] σ (some (.int rr)) ss := by
  refine CT.of RX10 rfl (by decide) (Nat.le_of_ble_eq_true rfl) rfl rfl (fun Γ C hR => ?_)
  show GW Γ 2 E σ 0 [(0, .ref (E.2.1 0)), (1, .int p0)] []
  rw [f_X10_become] at hf
  refine g_iload_n C 1 dX10_become_0 rfl ?_
  refine g_if_lt (y := 0) (tgt := 9) C dX10_become_1 (by decide) (fun c1 => ?_) (fun c1 => ?_)
  · rw [if_pos c1] at hf
    refine g_bipush C dX10_become_9 (v := (-102)) (by decide) ?_
    exact g_iretW C hR hf dX10_become_11
  · rw [if_neg c1] at hf
    refine g_iload_n C 1 dX10_become_4 rfl ?_
    refine g_iconst C dX10_become_5 (v := 3) (by decide) ?_
    refine g_icmp_le (tgt := 12) C dX10_become_6 (by decide) (fun c2 => ?_) (fun c2 => ?_)
    · rw [if_pos c2] at hf
      refine g_aload_n C 0 dX10_become_12 rfl ?_
      obtain ⟨r4, h3, hf⟩ := o_bind hf
      refine g_callV C 0 (c_X10_noCity l E h3) cls_9 k_X10_188 ⟨rfl, rfl, Nat.le_of_ble_eq_true rfl, Nat.le_of_ble_eq_true rfl⟩ (by decide) rfl rfl (Nat.le_of_ble_eq_true rfl) dX10_become_13 _ rfl ?_
      refine g_if_ne (y := 0) (tgt := 31) C dX10_become_16 (by decide) (fun c5 => ?_) (fun c5 => ?_)
      · rw [if_neg c5] at hf
        refine g_bipush C dX10_become_31 (v := (-103)) (by decide) ?_
        exact g_iretW C hR hf dX10_become_33
      · rw [if_pos c5] at hf
        refine g_aload_n C 0 dX10_become_19 rfl ?_
        refine fg_X10_32_0 C dX10_become_20 ?_
        refine fg_X10_154_6 C dX10_become_23 ?_
        refine g_lconst C dX10_become_26 (v := 0) (by decide) ?_
        refine g_lcmp_ne (tgt := 34) C dX10_become_27 dX10_become_28 (by decide) (fun c6 => ?_) (fun c6 => ?_)
        · rw [if_neg c6] at hf
          refine g_aload_n C 0 dX10_become_34 rfl ?_
          refine fg_X10_19_0 C dX10_become_35 ?_
          refine g_iload_n C 1 dX10_become_38 rfl ?_
          obtain ⟨r9, σ8, h7, hf⟩ := o_bind2 hf
          refine g_callV C 3 (c_X9_tunesBehind l E h7) cls_8 k_X10_214 ⟨rfl, rfl, Nat.le_of_ble_eq_true rfl, Nat.le_of_ble_eq_true rfl⟩ (by decide) rfl rfl (Nat.le_of_ble_eq_true rfl) dX10_become_39 _ rfl ?_
          exact g_iretW C hR hf dX10_become_42
        · rw [if_pos c6] at hf
          refine g_bipush C dX10_become_31 (v := (-103)) (by decide) ?_
          exact g_iretW C hR hf dX10_become_33
    · rw [if_neg c2] at hf
      refine g_bipush C dX10_become_9 (v := (-102)) (by decide) ?_
      exact g_iretW C hR hf dX10_become_11
abbrev rm_X10_apart : Room := { frames := 2, cells := 0, slots := 0, locals := 47 }
set_option maxRecDepth 100000 in
set_option maxHeartbeats 4000000 in
theorem c_X10_apart (l : Launch) (E : EV) {σ : ST} {rr : Int32} (hf : f_X10_apart σ = some rr) : CT l E yX10_apart cX10_apart 1 (some .int) rm_X10_apart [.ref (E.2.1 0)] σ (some (.int rr)) σ := by
  refine CT.of RX10 rfl (by decide) (Nat.le_of_ble_eq_true rfl) rfl rfl (fun Γ C hR => ?_)
  show GW Γ 1 E σ 0 [(0, .ref (E.2.1 0))] []
  rw [f_X10_apart] at hf
  refine g_aload_n C 0 dX10_apart_0 rfl ?_
  obtain ⟨r2, h1, hf⟩ := o_bind hf
  refine g_callV C 0 (c_X10_noTunes l E h1) cls_9 k_X10_199 ⟨rfl, rfl, Nat.le_of_ble_eq_true rfl, Nat.le_of_ble_eq_true rfl⟩ (by decide) rfl rfl (Nat.le_of_ble_eq_true rfl) dX10_apart_1 _ rfl ?_
  refine g_if_eq (y := 0) (tgt := 10) C dX10_apart_4 (by decide) (fun c3 => ?_) (fun c3 => ?_)
  · rw [if_pos c3] at hf
    refine g_aload_n C 0 dX10_apart_10 rfl ?_
    refine fg_X10_32_0 C dX10_apart_11 ?_
    refine fg_X10_154_6 C dX10_apart_14 ?_
    refine g_aload_n C 0 dX10_apart_17 rfl ?_
    refine fg_X10_32_0 C dX10_apart_18 ?_
    refine fg_X10_217_6 C dX10_apart_21 ?_
    obtain ⟨r5, h4, hf⟩ := o_bind hf
    refine g_callS C (c_X8_unlike l E h4) k_X10_220 ⟨rfl, rfl, Nat.le_of_ble_eq_true rfl, Nat.le_of_ble_eq_true rfl⟩ rfl (Nat.le_of_ble_eq_true rfl) dX10_apart_24 _ rfl ?_
    exact g_iretR C hR hf dX10_apart_27
  · rw [if_neg c3] at hf
    refine g_bipush C dX10_apart_7 (v := (-103)) (by decide) ?_
    exact g_iretR C hR hf dX10_apart_9
abbrev rm_X10_near : Room := { frames := 5, cells := 0, slots := 0, locals := 126 }
set_option maxRecDepth 100000 in
set_option maxHeartbeats 4000000 in
theorem c_X10_near (l : Launch) (E : EV) {σ : ST} {rr : Int32} (hf : f_X10_near σ = some rr) : CT l E yX10_near cX10_near 1 (some .int) rm_X10_near [.ref (E.2.1 0)] σ (some (.int rr)) σ := by
  refine CT.of RX10 rfl (by decide) (Nat.le_of_ble_eq_true rfl) rfl rfl (fun Γ C hR => ?_)
  show GW Γ 1 E σ 0 [(0, .ref (E.2.1 0))] []
  rw [f_X10_near] at hf
  refine g_aload_n C 0 dX10_near_0 rfl ?_
  obtain ⟨r2, h1, hf⟩ := o_bind hf
  refine g_callV C 0 (c_X10_noCity l E h1) cls_9 k_X10_188 ⟨rfl, rfl, Nat.le_of_ble_eq_true rfl, Nat.le_of_ble_eq_true rfl⟩ (by decide) rfl rfl (Nat.le_of_ble_eq_true rfl) dX10_near_1 _ rfl ?_
  refine g_if_ne (y := 0) (tgt := 14) C dX10_near_4 (by decide) (fun c3 => ?_) (fun c3 => ?_)
  · rw [if_neg c3] at hf
    refine g_bipush C dX10_near_14 (v := (-103)) (by decide) ?_
    exact g_iretR C hR hf dX10_near_16
  · rw [if_pos c3] at hf
    refine g_aload_n C 0 dX10_near_7 rfl ?_
    obtain ⟨r5, h4, hf⟩ := o_bind hf
    refine g_callV C 0 (c_X10_noTunes l E h4) cls_9 k_X10_199 ⟨rfl, rfl, Nat.le_of_ble_eq_true rfl, Nat.le_of_ble_eq_true rfl⟩ (by decide) rfl rfl (Nat.le_of_ble_eq_true rfl) dX10_near_8 _ rfl ?_
    refine g_if_eq (y := 0) (tgt := 17) C dX10_near_11 (by decide) (fun c6 => ?_) (fun c6 => ?_)
    · rw [if_pos c6] at hf
      refine g_aload_n C 0 dX10_near_17 rfl ?_
      refine fg_X10_19_0 C dX10_near_18 ?_
      obtain ⟨r8, h7, hf⟩ := o_bind hf
      refine g_callV C 3 (c_X9_nearest l E h7) cls_8 k_X10_224 ⟨rfl, rfl, Nat.le_of_ble_eq_true rfl, Nat.le_of_ble_eq_true rfl⟩ (by decide) rfl rfl (Nat.le_of_ble_eq_true rfl) dX10_near_21 _ rfl ?_
      exact g_iretR C hR hf dX10_near_24
    · rw [if_neg c6] at hf
      refine g_bipush C dX10_near_14 (v := (-103)) (by decide) ?_
      exact g_iretR C hR hf dX10_near_16
abbrev rm_X10_see : Room := { frames := 1, cells := 0, slots := 0, locals := 23 }
set_option maxRecDepth 100000 in
set_option maxHeartbeats 4000000 in
theorem c_X10_see (l : Launch) (E : EV) {σ ss : ST} {p0 : Int32} {p1 : Int32} {p2 : Int32} {rr : Int32} (hf : f_X10_see p0 p1 p2 σ = some (rr, ss)) : CT l E yX10_see cX10_see 4 (some .int) rm_X10_see [.ref (E.2.1 0), .int p0, .int p1, .int p2] σ (some (.int rr)) ss := by
  refine CT.of RX10 rfl (by decide) (Nat.le_of_ble_eq_true rfl) rfl rfl (fun Γ C hR => ?_)
  show GW Γ 4 E σ 0 [(0, .ref (E.2.1 0)), (1, .int p0), (2, .int p1), (3, .int p2)] []
  rw [f_X10_see] at hf
  refine g_aload_n C 0 dX10_see_0 rfl ?_
  refine fg_X10_27_0 C dX10_see_1 ?_
  refine g_iload_n C 1 dX10_see_4 rfl ?_
  obtain ⟨r2, h1, hf⟩ := o_bind hf
  refine g_callV C 4 (c_X1_at l E h1) cls_1 k_X10_104 ⟨rfl, rfl, Nat.le_of_ble_eq_true rfl, Nat.le_of_ble_eq_true rfl⟩ (by decide) rfl rfl (Nat.le_of_ble_eq_true rfl) dX10_see_5 _ rfl ?_
  cases r2 with
  | none =>
    replace hf := o_el0 hf
    refine g_ifnonnullN C dX10_see_8 ?_
    refine g_bipush C dX10_see_11 (v := (-101)) (by decide) ?_
    exact g_iretW C hR hf dX10_see_13
  | some a3 =>
    replace hf := o_el1 hf
    refine g_ifnonnullR C dX10_see_8 (tgt := 14) (by decide) ?_
    refine g_iload_n C 2 dX10_see_14 rfl ?_
    obtain ⟨r5, h4, hf⟩ := o_bind hf
    refine g_callS C (c_X10_isNote l E h4) k_X10_146 ⟨rfl, rfl, Nat.le_of_ble_eq_true rfl, Nat.le_of_ble_eq_true rfl⟩ rfl (Nat.le_of_ble_eq_true rfl) dX10_see_15 _ rfl ?_
    refine g_if_eq (y := 0) (tgt := 28) C dX10_see_18 (by decide) (fun c6 => ?_) (fun c6 => ?_)
    · rw [if_pos c6] at hf
      refine g_bipush C dX10_see_28 (v := (-102)) (by decide) ?_
      exact g_iretW C hR hf dX10_see_30
    · rw [if_neg c6] at hf
      refine g_iload_n C 3 dX10_see_21 rfl ?_
      obtain ⟨r8, h7, hf⟩ := o_bind hf
      refine g_callS C (c_X10_isNote l E h7) k_X10_146 ⟨rfl, rfl, Nat.le_of_ble_eq_true rfl, Nat.le_of_ble_eq_true rfl⟩ rfl (Nat.le_of_ble_eq_true rfl) dX10_see_22 _ rfl ?_
      refine g_if_ne (y := 0) (tgt := 31) C dX10_see_25 (by decide) (fun c9 => ?_) (fun c9 => ?_)
      · rw [if_neg c9] at hf
        refine g_aload_n C 0 dX10_see_31 rfl ?_
        refine fg_X10_32_0 C dX10_see_32 ?_
        refine fg_X10_227_6 C dX10_see_35 ?_
        refine g_bipush C dX10_see_38 (v := 6) (by decide) ?_
        refine g_icmp_lt (tgt := 46) C dX10_see_40 (by decide) (fun c10 => ?_) (fun c10 => ?_)
        · rw [if_pos c10] at hf
          refine g_aload_n C 0 dX10_see_46 rfl ?_
          refine fg_X10_32_0 C dX10_see_47 ?_
          refine g_iload_n C 1 dX10_see_50 rfl ?_
          refine g_iload_n C 2 dX10_see_51 rfl ?_
          refine g_iload_n C 3 dX10_see_52 rfl ?_
          obtain ⟨σ12, h11, hf⟩ := o_bind hf
          refine g_callV C 6 (c_X3_addSight l E h11) cls_3 k_X10_230 ⟨rfl, rfl, Nat.le_of_ble_eq_true rfl, Nat.le_of_ble_eq_true rfl⟩ (by decide) rfl rfl (Nat.le_of_ble_eq_true rfl) dX10_see_53 _ rfl ?_
          refine g_aload_n C 0 dX10_see_56 rfl ?_
          refine fg_X10_32_0 C dX10_see_57 ?_
          refine fg_X10_227_6 C dX10_see_60 ?_
          exact g_iretW C hR hf dX10_see_63
        · rw [if_neg c10] at hf
          refine g_bipush C dX10_see_43 (v := (-104)) (by decide) ?_
          exact g_iretW C hR hf dX10_see_45
      · rw [if_pos c9] at hf
        refine g_bipush C dX10_see_28 (v := (-102)) (by decide) ?_
        exact g_iretW C hR hf dX10_see_30
abbrev rm_X10_forget : Room := { frames := 0, cells := 0, slots := 0, locals := 0 }
set_option maxRecDepth 100000 in
set_option maxHeartbeats 4000000 in
theorem c_X10_forget (l : Launch) (E : EV) {σ ss : ST} {rr : Int32} (hf : f_X10_forget σ = some (rr, ss)) : CT l E yX10_forget cX10_forget 2 (some .int) rm_X10_forget [.ref (E.2.1 0)] σ (some (.int rr)) ss := by
  refine CT.of RX10 rfl (by decide) (Nat.le_of_ble_eq_true rfl) rfl rfl (fun Γ C hR => ?_)
  show GW Γ 2 E σ 0 [(0, .ref (E.2.1 0))] []
  rw [f_X10_forget] at hf
  refine g_aload_n C 0 dX10_forget_0 rfl ?_
  refine fg_X10_32_0 C dX10_forget_1 ?_
  refine fg_X10_227_6 C dX10_forget_4 ?_
  obtain ⟨x1, hx1, hf⟩ := o_let hf
  refine g_topi hx1 ?_
  refine g_istore_n C dX10_forget_7 (by decide) [(1, .int x1), (0, .ref (E.2.1 0))] rfl ?_
  refine g_aload_n C 1 dX10_forget_8 rfl ?_
  refine fg_X10_32_0 C dX10_forget_9 ?_
  refine g_iconst C dX10_forget_12 (v := 0) (by decide) ?_
  obtain ⟨σ2, hσ2, hf⟩ := o_let hf
  refine fp_X10_227_6 C dX10_forget_13 hσ2 ?_
  refine g_iload_n C 0 dX10_forget_16 rfl ?_
  exact g_iretW C hR hf dX10_forget_17
abbrev rm_X10_wander : Room := { frames := 5, cells := 0, slots := 0, locals := 128 }
set_option maxRecDepth 100000 in
set_option maxHeartbeats 4000000 in
theorem c_X10_wander (l : Launch) (E : EV) {σ ss : ST} {p0 : Int32} {p1 : Int32} {p2 : Int32} {rr : Int32} (hf : f_X10_wander p0 p1 p2 σ = some (rr, ss)) : CT l E yX10_wander cX10_wander 4 (some .int) rm_X10_wander [.ref (E.2.1 0), .int p0, .int p1, .int p2] σ (some (.int rr)) ss := by
  refine CT.of RX10 rfl (by decide) (Nat.le_of_ble_eq_true rfl) rfl rfl (fun Γ C hR => ?_)
  show GW Γ 4 E σ 0 [(0, .ref (E.2.1 0)), (1, .int p0), (2, .int p1), (3, .int p2)] []
  rw [f_X10_wander] at hf
  refine g_iload_n C 1 dX10_wander_0 rfl ?_
  refine g_iconst C dX10_wander_1 (v := 1) (by decide) ?_
  refine g_icmp_lt (tgt := 24) C dX10_wander_2 (by decide) (fun c1 => ?_) (fun c1 => ?_)
  · rw [if_pos c1] at hf
    refine g_bipush C dX10_wander_24 (v := (-102)) (by decide) ?_
    exact g_iretW C hR hf dX10_wander_26
  · rw [if_neg c1] at hf
    refine g_iload_n C 1 dX10_wander_5 rfl ?_
    refine g_bipush C dX10_wander_6 (v := 60) (by decide) ?_
    refine g_icmp_gt (tgt := 24) C dX10_wander_8 (by decide) (fun c2 => ?_) (fun c2 => ?_)
    · rw [if_pos c2] at hf
      refine g_bipush C dX10_wander_24 (v := (-102)) (by decide) ?_
      exact g_iretW C hR hf dX10_wander_26
    · rw [if_neg c2] at hf
      refine g_iload_n C 2 dX10_wander_11 rfl ?_
      refine g_if_lt (y := 0) (tgt := 24) C dX10_wander_12 (by decide) (fun c3 => ?_) (fun c3 => ?_)
      · rw [if_pos c3] at hf
        refine g_bipush C dX10_wander_24 (v := (-102)) (by decide) ?_
        exact g_iretW C hR hf dX10_wander_26
      · rw [if_neg c3] at hf
        refine g_iload_n C 3 dX10_wander_15 rfl ?_
        refine g_if_lt (y := 0) (tgt := 24) C dX10_wander_16 (by decide) (fun c4 => ?_) (fun c4 => ?_)
        · rw [if_pos c4] at hf
          refine g_bipush C dX10_wander_24 (v := (-102)) (by decide) ?_
          exact g_iretW C hR hf dX10_wander_26
        · rw [if_neg c4] at hf
          refine g_iload_n C 3 dX10_wander_19 rfl ?_
          refine g_iconst C dX10_wander_20 (v := 2) (by decide) ?_
          refine g_icmp_le (tgt := 27) C dX10_wander_21 (by decide) (fun c5 => ?_) (fun c5 => ?_)
          · rw [if_pos c5] at hf
            refine g_aload_n C 0 dX10_wander_27 rfl ?_
            obtain ⟨r7, h6, hf⟩ := o_bind hf
            refine g_callV C 0 (c_X10_noCity l E h6) cls_9 k_X10_188 ⟨rfl, rfl, Nat.le_of_ble_eq_true rfl, Nat.le_of_ble_eq_true rfl⟩ (by decide) rfl rfl (Nat.le_of_ble_eq_true rfl) dX10_wander_28 _ rfl ?_
            refine g_if_ne (y := 0) (tgt := 41) C dX10_wander_31 (by decide) (fun c8 => ?_) (fun c8 => ?_)
            · rw [if_neg c8] at hf
              refine g_bipush C dX10_wander_41 (v := (-103)) (by decide) ?_
              exact g_iretW C hR hf dX10_wander_43
            · rw [if_pos c8] at hf
              refine g_aload_n C 0 dX10_wander_34 rfl ?_
              obtain ⟨r10, h9, hf⟩ := o_bind hf
              refine g_callV C 0 (c_X10_noTunes l E h9) cls_9 k_X10_199 ⟨rfl, rfl, Nat.le_of_ble_eq_true rfl, Nat.le_of_ble_eq_true rfl⟩ (by decide) rfl rfl (Nat.le_of_ble_eq_true rfl) dX10_wander_35 _ rfl ?_
              refine g_if_eq (y := 0) (tgt := 44) C dX10_wander_38 (by decide) (fun c11 => ?_) (fun c11 => ?_)
              · rw [if_pos c11] at hf
                refine g_aload_n C 0 dX10_wander_44 rfl ?_
                refine fg_X10_19_0 C dX10_wander_45 ?_
                refine g_iload_n C 1 dX10_wander_48 rfl ?_
                refine g_iload_n C 2 dX10_wander_49 rfl ?_
                obtain ⟨σ13, h12, hf⟩ := o_bind hf
                refine g_callV C 3 (c_X9_wanderOff l E h12) cls_8 k_X10_234 ⟨rfl, rfl, Nat.le_of_ble_eq_true rfl, Nat.le_of_ble_eq_true rfl⟩ (by decide) rfl rfl (Nat.le_of_ble_eq_true rfl) dX10_wander_50 _ rfl ?_
                refine g_iload_n C 3 dX10_wander_53 rfl ?_
                refine g_if_ne (y := 0) (tgt := 65) C dX10_wander_54 (by decide) (fun c14 => ?_) (fun c14 => ?_)
                · rw [if_neg c14] at hf
                  refine g_iload_n C 3 dX10_wander_65 rfl ?_
                  refine g_iconst C dX10_wander_66 (v := 1) (by decide) ?_
                  refine g_icmp_ne (tgt := 80) C dX10_wander_67 (by decide) (fun c15 => ?_) (fun c15 => ?_)
                  · rw [if_neg c15] at hf
                    refine g_aload_n C 0 dX10_wander_80 rfl ?_
                    refine fg_X10_19_0 C dX10_wander_81 ?_
                    refine fg_X10_243_3 C dX10_wander_84 ?_
                    refine g_l2i C dX10_wander_87 ?_
                    exact g_iretW C hR hf dX10_wander_88
                  · rw [if_pos c15] at hf
                    refine g_aload_n C 0 dX10_wander_70 rfl ?_
                    refine fg_X10_19_0 C dX10_wander_71 ?_
                    refine fg_X10_240_3 C dX10_wander_74 ?_
                    refine g_goto (tgt := 88) C dX10_wander_77 (by decide) ?_
                    exact g_iretW C hR hf dX10_wander_88
                · rw [if_pos c14] at hf
                  refine g_aload_n C 0 dX10_wander_57 rfl ?_
                  refine fg_X10_19_0 C dX10_wander_58 ?_
                  refine fg_X10_237_3 C dX10_wander_61 ?_
                  exact g_iretW C hR hf dX10_wander_64
              · rw [if_neg c11] at hf
                refine g_bipush C dX10_wander_41 (v := (-103)) (by decide) ?_
                exact g_iretW C hR hf dX10_wander_43
          · rw [if_neg c5] at hf
            refine g_bipush C dX10_wander_24 (v := (-102)) (by decide) ?_
            exact g_iretW C hR hf dX10_wander_26
abbrev rm_X10_image : Room := { frames := 2, cells := 0, slots := 0, locals := 61 }
set_option maxRecDepth 100000 in
set_option maxHeartbeats 4000000 in
theorem c_X10_image (l : Launch) (E : EV) {σ ss : ST} {rr : Int32} (hf : f_X10_image σ = some (rr, ss)) : CT l E yX10_image cX10_image 1 (some .int) rm_X10_image [.ref (E.2.1 0)] σ (some (.int rr)) ss := by
  refine CT.of RX10 rfl (by decide) (Nat.le_of_ble_eq_true rfl) rfl rfl (fun Γ C hR => ?_)
  show GW Γ 1 E σ 0 [(0, .ref (E.2.1 0))] []
  rw [f_X10_image] at hf
  refine g_aload_n C 0 dX10_image_0 rfl ?_
  obtain ⟨r2, h1, hf⟩ := o_bind hf
  refine g_callV C 0 (c_X10_noCity l E h1) cls_9 k_X10_188 ⟨rfl, rfl, Nat.le_of_ble_eq_true rfl, Nat.le_of_ble_eq_true rfl⟩ (by decide) rfl rfl (Nat.le_of_ble_eq_true rfl) dX10_image_1 _ rfl ?_
  refine g_if_eq (y := 0) (tgt := 10) C dX10_image_4 (by decide) (fun c3 => ?_) (fun c3 => ?_)
  · rw [if_pos c3] at hf
    refine g_aload_n C 0 dX10_image_10 rfl ?_
    refine fg_X10_36_0 C dX10_image_11 ?_
    refine g_aload_n C 0 dX10_image_14 rfl ?_
    refine fg_X10_32_0 C dX10_image_15 ?_
    obtain ⟨σ5, h4, hf⟩ := o_bind hf
    refine g_callV C 14 (c_X3_copyI l E h4) cls_3 k_X10_246 ⟨rfl, rfl, Nat.le_of_ble_eq_true rfl, Nat.le_of_ble_eq_true rfl⟩ (by decide) rfl rfl (Nat.le_of_ble_eq_true rfl) dX10_image_18 _ rfl ?_
    refine g_aload_n C 0 dX10_image_21 rfl ?_
    refine g_aload_n C 0 dX10_image_22 rfl ?_
    refine fg_X10_68_0 C dX10_image_23 ?_
    obtain ⟨σ6, hσ6, hf⟩ := o_let hf
    refine fp_X10_250_0 C dX10_image_26 hσ6 ?_
    refine g_aload_n C 0 dX10_image_29 rfl ?_
    refine fg_X10_32_0 C dX10_image_30 ?_
    refine fg_X10_172_6 C dX10_image_33 ?_
    exact g_iretW C hR hf dX10_image_36
  · rw [if_neg c3] at hf
    refine g_bipush C dX10_image_7 (v := (-103)) (by decide) ?_
    exact g_iretW C hR hf dX10_image_9
abbrev rm_X10_restore : Room := { frames := 2, cells := 0, slots := 0, locals := 61 }
set_option maxRecDepth 100000 in
set_option maxHeartbeats 4000000 in
theorem c_X10_restore (l : Launch) (E : EV) {σ ss : ST} {rr : Int32} (hf : f_X10_restore σ = some (rr, ss)) : CT l E yX10_restore cX10_restore 1 (some .int) rm_X10_restore [.ref (E.2.1 0)] σ (some (.int rr)) ss := by
  refine CT.of RX10 rfl (by decide) (Nat.le_of_ble_eq_true rfl) rfl rfl (fun Γ C hR => ?_)
  show GW Γ 1 E σ 0 [(0, .ref (E.2.1 0))] []
  rw [f_X10_restore] at hf
  refine g_aload_n C 0 dX10_restore_0 rfl ?_
  refine fg_X10_250_0 C dX10_restore_1 ?_
  refine g_if_eq (y := 0) (tgt := 18) C dX10_restore_4 (by decide) (fun c1 => ?_) (fun c1 => ?_)
  · rw [if_pos c1] at hf
    refine g_bipush C dX10_restore_18 (v := (-103)) (by decide) ?_
    exact g_iretW C hR hf dX10_restore_20
  · rw [if_neg c1] at hf
    refine g_aload_n C 0 dX10_restore_7 rfl ?_
    refine fg_X10_250_0 C dX10_restore_8 ?_
    refine g_aload_n C 0 dX10_restore_11 rfl ?_
    refine fg_X10_68_0 C dX10_restore_12 ?_
    refine g_icmp_eq (tgt := 21) C dX10_restore_15 (by decide) (fun c2 => ?_) (fun c2 => ?_)
    · rw [if_pos c2] at hf
      refine g_aload_n C 0 dX10_restore_21 rfl ?_
      refine fg_X10_32_0 C dX10_restore_22 ?_
      refine g_aload_n C 0 dX10_restore_25 rfl ?_
      refine fg_X10_36_0 C dX10_restore_26 ?_
      obtain ⟨σ4, h3, hf⟩ := o_bind hf
      refine g_callV C 6 (c_X3_copy l E h3) cls_3 k_X10_246 ⟨rfl, rfl, Nat.le_of_ble_eq_true rfl, Nat.le_of_ble_eq_true rfl⟩ (by decide) rfl rfl (Nat.le_of_ble_eq_true rfl) dX10_restore_29 _ rfl ?_
      refine g_aload_n C 0 dX10_restore_32 rfl ?_
      refine fg_X10_32_0 C dX10_restore_33 ?_
      refine fg_X10_172_6 C dX10_restore_36 ?_
      exact g_iretW C hR hf dX10_restore_39
    · rw [if_neg c2] at hf
      refine g_bipush C dX10_restore_18 (v := (-103)) (by decide) ?_
      exact g_iretW C hR hf dX10_restore_20
abbrev rm_X10_count : Room := { frames := 5, cells := 0, slots := 0, locals := 115 }
set_option maxRecDepth 100000 in
set_option maxHeartbeats 4000000 in
theorem c_X10_count (l : Launch) (E : EV) {σ : ST} {p0 : Int32} {rr : Int32} (hf : f_X10_count σ p0 = some rr) : CT l E yX10_count cX10_count 2 (some .int) rm_X10_count [.ref (E.2.1 0), .int p0] σ (some (.int rr)) σ := by
  refine CT.of RX10 rfl (by decide) (Nat.le_of_ble_eq_true rfl) rfl rfl (fun Γ C hR => ?_)
  show GW Γ 2 E σ 0 [(0, .ref (E.2.1 0)), (1, .int p0)] []
  rw [f_X10_count] at hf
  refine g_iload_n C 1 dX10_count_0 rfl ?_
  by_cases c1 : p0 = 0
  · rw [if_pos c1] at hf
    refine g_tabIn C 0 (tgt := 68) dX10_count_1 c1 (by decide) (by decide) rfl (by decide) ?_
    refine g_aload_n C 0 dX10_count_68 rfl ?_
    refine fg_X10_27_0 C dX10_count_69 ?_
    refine fg_X10_185_4 C dX10_count_72 ?_
    exact g_iretR C hR hf dX10_count_75
  rw [if_neg c1] at hf
  by_cases c2 : p0 = 1
  · rw [if_pos c2] at hf
    refine g_tabIn C 1 (tgt := 76) dX10_count_1 c2 (by decide) (by decide) rfl (by decide) ?_
    refine g_aload_n C 0 dX10_count_76 rfl ?_
    refine fg_X10_27_0 C dX10_count_77 ?_
    refine fg_X10_61_4 C dX10_count_80 ?_
    exact g_iretR C hR hf dX10_count_83
  rw [if_neg c2] at hf
  by_cases c3 : p0 = 2
  · rw [if_pos c3] at hf
    refine g_tabIn C 2 (tgt := 84) dX10_count_1 c3 (by decide) (by decide) rfl (by decide) ?_
    refine g_aload_n C 0 dX10_count_84 rfl ?_
    refine fg_X10_32_0 C dX10_count_85 ?_
    refine fg_X10_158_6 C dX10_count_88 ?_
    exact g_iretR C hR hf dX10_count_91
  rw [if_neg c3] at hf
  by_cases c4 : p0 = 3
  · rw [if_pos c4] at hf
    refine g_tabIn C 3 (tgt := 92) dX10_count_1 c4 (by decide) (by decide) rfl (by decide) ?_
    refine g_aload_n C 0 dX10_count_92 rfl ?_
    refine fg_X10_32_0 C dX10_count_93 ?_
    refine fg_X10_164_6 C dX10_count_96 ?_
    refine g_if_eq (y := 0) (tgt := 106) C dX10_count_99 (by decide) (fun c5 => ?_) (fun c5 => ?_)
    · rw [if_pos c5] at hf
      refine g_iconst C dX10_count_106 (v := 0) (by decide) ?_
      exact g_iretR C hR hf dX10_count_107
    · rw [if_neg c5] at hf
      refine g_iconst C dX10_count_102 (v := 1) (by decide) ?_
      refine g_goto (tgt := 107) C dX10_count_103 (by decide) ?_
      exact g_iretR C hR hf dX10_count_107
  rw [if_neg c4] at hf
  by_cases c6 : p0 = 4
  · rw [if_pos c6] at hf
    refine g_tabIn C 4 (tgt := 108) dX10_count_1 c6 (by decide) (by decide) rfl (by decide) ?_
    refine g_aload_n C 0 dX10_count_108 rfl ?_
    refine fg_X10_27_0 C dX10_count_109 ?_
    refine g_aload_n C 0 dX10_count_112 rfl ?_
    refine fg_X10_32_0 C dX10_count_113 ?_
    refine fg_X10_158_6 C dX10_count_116 ?_
    obtain ⟨r8, h7, hf⟩ := o_bind hf
    refine g_callV C 4 (c_X1_countAt l E h7) cls_1 k_X10_253 ⟨rfl, rfl, Nat.le_of_ble_eq_true rfl, Nat.le_of_ble_eq_true rfl⟩ (by decide) rfl rfl (Nat.le_of_ble_eq_true rfl) dX10_count_119 _ rfl ?_
    exact g_iretR C hR hf dX10_count_122
  rw [if_neg c6] at hf
  by_cases c9 : p0 = 5
  · rw [if_pos c9] at hf
    refine g_tabIn C 5 (tgt := 123) dX10_count_1 c9 (by decide) (by decide) rfl (by decide) ?_
    refine g_aload_n C 0 dX10_count_123 rfl ?_
    refine fg_X10_32_0 C dX10_count_124 ?_
    refine fg_X10_154_6 C dX10_count_127 ?_
    refine g_lconst C dX10_count_130 (v := 0) (by decide) ?_
    refine g_lcmp_ne (tgt := 139) C dX10_count_131 dX10_count_132 (by decide) (fun c10 => ?_) (fun c10 => ?_)
    · rw [if_neg c10] at hf
      refine g_aload_n C 0 dX10_count_139 rfl ?_
      refine fg_X10_19_0 C dX10_count_140 ?_
      obtain ⟨r12, h11, hf⟩ := o_bind hf
      refine g_callV C 3 (c_X9_countOpen l E h11) cls_8 k_X10_256 ⟨rfl, rfl, Nat.le_of_ble_eq_true rfl, Nat.le_of_ble_eq_true rfl⟩ (by decide) rfl rfl (Nat.le_of_ble_eq_true rfl) dX10_count_143 _ rfl ?_
      exact g_iretR C hR hf dX10_count_146
    · rw [if_pos c10] at hf
      refine g_iconst C dX10_count_135 (v := 0) (by decide) ?_
      refine g_goto (tgt := 146) C dX10_count_136 (by decide) ?_
      exact g_iretR C hR hf dX10_count_146
  rw [if_neg c9] at hf
  by_cases c13 : p0 = 6
  · rw [if_pos c13] at hf
    refine g_tabIn C 6 (tgt := 147) dX10_count_1 c13 (by decide) (by decide) rfl (by decide) ?_
    refine g_aload_n C 0 dX10_count_147 rfl ?_
    refine fg_X10_32_0 C dX10_count_148 ?_
    refine fg_X10_172_6 C dX10_count_151 ?_
    exact g_iretR C hR hf dX10_count_154
  rw [if_neg c13] at hf
  by_cases c14 : p0 = 7
  · rw [if_pos c14] at hf
    refine g_tabIn C 7 (tgt := 155) dX10_count_1 c14 (by decide) (by decide) rfl (by decide) ?_
    refine g_aload_n C 0 dX10_count_155 rfl ?_
    refine fg_X10_32_0 C dX10_count_156 ?_
    refine fg_X10_154_6 C dX10_count_159 ?_
    obtain ⟨r16, h15, hf⟩ := o_bind hf
    refine g_callS C (c_X8_length l E h15) k_X10_79 ⟨rfl, rfl, Nat.le_of_ble_eq_true rfl, Nat.le_of_ble_eq_true rfl⟩ rfl (Nat.le_of_ble_eq_true rfl) dX10_count_162 _ rfl ?_
    exact g_iretR C hR hf dX10_count_165
  rw [if_neg c14] at hf
  by_cases c17 : p0 = 8
  · rw [if_pos c17] at hf
    refine g_tabIn C 8 (tgt := 166) dX10_count_1 c17 (by decide) (by decide) rfl (by decide) ?_
    refine g_aload_n C 0 dX10_count_166 rfl ?_
    refine fg_X10_32_0 C dX10_count_167 ?_
    refine fg_X10_217_6 C dX10_count_170 ?_
    obtain ⟨r19, h18, hf⟩ := o_bind hf
    refine g_callS C (c_X8_length l E h18) k_X10_79 ⟨rfl, rfl, Nat.le_of_ble_eq_true rfl, Nat.le_of_ble_eq_true rfl⟩ rfl (Nat.le_of_ble_eq_true rfl) dX10_count_173 _ rfl ?_
    exact g_iretR C hR hf dX10_count_176
  rw [if_neg c17] at hf
  by_cases c20 : p0 = 9
  · rw [if_pos c20] at hf
    refine g_tabIn C 9 (tgt := 177) dX10_count_1 c20 (by decide) (by decide) rfl (by decide) ?_
    refine g_aload_n C 0 dX10_count_177 rfl ?_
    refine fg_X10_32_0 C dX10_count_178 ?_
    refine fg_X10_227_6 C dX10_count_181 ?_
    exact g_iretR C hR hf dX10_count_184
  rw [if_neg c20] at hf
  by_cases c21 : p0 = 10
  · rw [if_pos c21] at hf
    refine g_tabIn C 10 (tgt := 185) dX10_count_1 c21 (by decide) (by decide) rfl (by decide) ?_
    refine g_aload_n C 0 dX10_count_185 rfl ?_
    refine fg_X10_10_0 C dX10_count_186 ?_
    refine fg_X10_39_1 C dX10_count_189 ?_
    exact g_iretR C hR hf dX10_count_192
  rw [if_neg c21] at hf
  by_cases c22 : p0 = 11
  · rw [if_pos c22] at hf
    refine g_tabIn C 11 (tgt := 193) dX10_count_1 c22 (by decide) (by decide) rfl (by decide) ?_
    refine g_aload_n C 0 dX10_count_193 rfl ?_
    refine fg_X10_68_0 C dX10_count_194 ?_
    exact g_iretR C hR hf dX10_count_197
  rw [if_neg c22] at hf
  by_cases c23 : p0 = 12
  · rw [if_pos c23] at hf
    refine g_tabIn C 12 (tgt := 198) dX10_count_1 c23 (by decide) (by decide) rfl (by decide) ?_
    refine g_aload_n C 0 dX10_count_198 rfl ?_
    refine fg_X10_202_0 C dX10_count_199 ?_
    exact g_iretR C hR hf dX10_count_202
  rw [if_neg c23] at hf
  refine g_tabOut (tgt := 203) C dX10_count_1 (by have qc1 := lv_neT c1 (show (0 : Int32).toInt = 0 by decide); have qc2 := lv_neT c2 (show (1 : Int32).toInt = 1 by decide); have qc3 := lv_neT c3 (show (2 : Int32).toInt = 2 by decide); have qc4 := lv_neT c4 (show (3 : Int32).toInt = 3 by decide); have qc6 := lv_neT c6 (show (4 : Int32).toInt = 4 by decide); have qc9 := lv_neT c9 (show (5 : Int32).toInt = 5 by decide); have qc13 := lv_neT c13 (show (6 : Int32).toInt = 6 by decide); have qc14 := lv_neT c14 (show (7 : Int32).toInt = 7 by decide); have qc17 := lv_neT c17 (show (8 : Int32).toInt = 8 by decide); have qc20 := lv_neT c20 (show (9 : Int32).toInt = 9 by decide); have qc21 := lv_neT c21 (show (10 : Int32).toInt = 10 by decide); have qc22 := lv_neT c22 (show (11 : Int32).toInt = 11 by decide); have qc23 := lv_neT c23 (show (12 : Int32).toInt = 12 by decide); omega) (by decide) ?_
  refine g_bipush C dX10_count_203 (v := (-102)) (by decide) ?_
  exact g_iretR C hR hf dX10_count_205
abbrev rm_X10_digestTune : Room := { frames := 5, cells := 0, slots := 0, locals := 120 }
set_option maxRecDepth 100000 in
set_option maxHeartbeats 4000000 in
theorem t_X10_digestTune_L51 {Γ : CX} {l : Launch} {E : EV} {σ : ST} {rr : Int64} (C : FX Γ l cX10_digestTune 7 RX10 rm_X10_digestTune E) (hR : RT Γ (some .long) E (some (.long rr)) σ) : ∀ (n : Nat) (v3 : Int32) (v4 : Int64) (v6 : Int32), f_X10_digestTune_L51 σ n v3 v4 v6 = some rr → GW Γ 7 E σ 51 [(0, .ref (E.2.1 0)), (3, .int v3), (4, .long v4), (6, .int v6)] [] := by
  intro n
  induction n with
  | zero => intro v3 v4 v6 hf; exact nomatch hf
  | succ n ih =>
    intro v3 v4 v6 hf
    rw [f_X10_digestTune_L51] at hf
    refine g_iload C 3 dX10_digestTune_51 rfl ?_
    refine g_bipush C dX10_digestTune_53 (v := 18) (by decide) ?_
    refine g_icmp_ge (tgt := 78) C dX10_digestTune_55 (by decide) (fun c5 => ?_) (fun c5 => ?_)
    · rw [if_pos c5] at hf
      refine g_lload C 2 dX10_digestTune_78 rfl ?_
      exact g_lretR C hR hf dX10_digestTune_80
    · rw [if_neg c5] at hf
      refine g_lload C 2 dX10_digestTune_58 rfl ?_
      refine g_aload_n C 0 dX10_digestTune_60 rfl ?_
      refine g_iload_n C 1 dX10_digestTune_61 rfl ?_
      refine g_iload C 3 dX10_digestTune_62 rfl ?_
      obtain ⟨r7, h6, hf⟩ := o_bind hf
      refine g_callV C 0 (c_X10_told l E h6) cls_9 k_X10_284 ⟨rfl, rfl, Nat.le_of_ble_eq_true rfl, Nat.le_of_ble_eq_true rfl⟩ (by decide) rfl rfl (Nat.le_of_ble_eq_true rfl) dX10_digestTune_64 _ rfl ?_
      obtain ⟨r9, h8, hf⟩ := o_bind hf
      refine g_callS C (c_X10_mix l E h8) k_X10_264 ⟨rfl, rfl, Nat.le_of_ble_eq_true rfl, Nat.le_of_ble_eq_true rfl⟩ rfl (Nat.le_of_ble_eq_true rfl) dX10_digestTune_67 _ rfl ?_
      refine g_lstore C dX10_digestTune_70 (by decide) [(4, .long r9), (0, .ref (E.2.1 0)), (3, .int v3), (6, .int v6)] rfl ?_
      obtain ⟨x10, hx10, hf⟩ := o_let hf
      refine g_iinc C 3 dX10_digestTune_72 rfl hx10 (by decide) [(6, .int x10), (4, .long r9), (0, .ref (E.2.1 0)), (3, .int v3)] rfl ?_
      refine g_goto (tgt := 51) C dX10_digestTune_75 (by decide) ?_
      exact g_lv [(0, .ref (E.2.1 0)), (3, .int v3), (4, .long r9), (6, .int x10)] [2, 3, 1, 0] rfl (ih v3 r9 x10 hf)
set_option maxRecDepth 100000 in
set_option maxHeartbeats 4000000 in
theorem t_X10_digestTune_B47 {Γ : CX} {l : Launch} {E : EV} {σ : ST} {rr : Int64} (C : FX Γ l cX10_digestTune 7 RX10 rm_X10_digestTune E) (hR : RT Γ (some .long) E (some (.long rr)) σ) (v3 : Int32) (v4 : Int64) (hf : f_X10_digestTune_B47 σ v3 v4 = some rr) : GW Γ 7 E σ 47 [(0, .ref (E.2.1 0)), (3, .int v3), (4, .long v4)] [] := by
  rw [f_X10_digestTune_B47] at hf
  refine g_bipush C dX10_digestTune_47 (v := 10) (by decide) ?_
  refine g_istore C dX10_digestTune_49 (by decide) [(6, .int 10), (0, .ref (E.2.1 0)), (3, .int v3), (4, .long v4)] rfl ?_
  exact g_lv [(0, .ref (E.2.1 0)), (3, .int v3), (4, .long v4), (6, .int 10)] [1, 2, 3, 0] rfl (t_X10_digestTune_L51 C hR fuel v3 v4 10 hf)
set_option maxRecDepth 100000 in
set_option maxHeartbeats 4000000 in
theorem t_X10_digestTune_L21 {Γ : CX} {l : Launch} {E : EV} {σ : ST} {rr : Int64} (C : FX Γ l cX10_digestTune 7 RX10 rm_X10_digestTune E) (hR : RT Γ (some .long) E (some (.long rr)) σ) : ∀ (n : Nat) (v3 : Int32) (v4 : Int64) (v6 : Int32), f_X10_digestTune_L21 σ n v3 v4 v6 = some rr → GW Γ 7 E σ 21 [(0, .ref (E.2.1 0)), (3, .int v3), (4, .long v4), (6, .int v6)] [] := by
  intro n
  induction n with
  | zero => intro v3 v4 v6 hf; exact nomatch hf
  | succ n ih =>
    intro v3 v4 v6 hf
    rw [f_X10_digestTune_L21] at hf
    refine g_iload C 3 dX10_digestTune_21 rfl ?_
    refine g_iconst C dX10_digestTune_23 (v := 4) (by decide) ?_
    refine g_icmp_gt (tgt := 47) C dX10_digestTune_24 (by decide) (fun c4 => ?_) (fun c4 => ?_)
    · rw [if_pos c4] at hf
      exact g_lv [(0, .ref (E.2.1 0)), (3, .int v3), (4, .long v4)] [0, 1, 2] rfl (t_X10_digestTune_B47 C hR v3 v4 hf)
    · rw [if_neg c4] at hf
      refine g_lload C 2 dX10_digestTune_27 rfl ?_
      refine g_aload_n C 0 dX10_digestTune_29 rfl ?_
      refine g_iload_n C 1 dX10_digestTune_30 rfl ?_
      refine g_iload C 3 dX10_digestTune_31 rfl ?_
      obtain ⟨r12, h11, hf⟩ := o_bind hf
      refine g_callV C 0 (c_X10_told l E h11) cls_9 k_X10_284 ⟨rfl, rfl, Nat.le_of_ble_eq_true rfl, Nat.le_of_ble_eq_true rfl⟩ (by decide) rfl rfl (Nat.le_of_ble_eq_true rfl) dX10_digestTune_33 _ rfl ?_
      obtain ⟨r14, h13, hf⟩ := o_bind hf
      refine g_callS C (c_X10_mix l E h13) k_X10_264 ⟨rfl, rfl, Nat.le_of_ble_eq_true rfl, Nat.le_of_ble_eq_true rfl⟩ rfl (Nat.le_of_ble_eq_true rfl) dX10_digestTune_36 _ rfl ?_
      refine g_lstore C dX10_digestTune_39 (by decide) [(4, .long r14), (0, .ref (E.2.1 0)), (3, .int v3), (6, .int v6)] rfl ?_
      obtain ⟨x15, hx15, hf⟩ := o_let hf
      refine g_iinc C 3 dX10_digestTune_41 rfl hx15 (by decide) [(6, .int x15), (4, .long r14), (0, .ref (E.2.1 0)), (3, .int v3)] rfl ?_
      refine g_goto (tgt := 21) C dX10_digestTune_44 (by decide) ?_
      exact g_lv [(0, .ref (E.2.1 0)), (3, .int v3), (4, .long r14), (6, .int x15)] [2, 3, 1, 0] rfl (ih v3 r14 x15 hf)
set_option maxRecDepth 100000 in
set_option maxHeartbeats 4000000 in
theorem c_X10_digestTune (l : Launch) (E : EV) {σ : ST} {p0 : Int64} {p1 : Int32} {rr : Int64} (hf : f_X10_digestTune σ p0 p1 = some rr) : CT l E yX10_digestTune cX10_digestTune 7 (some .long) rm_X10_digestTune [.ref (E.2.1 0), .long p0, .int p1] σ (some (.long rr)) σ := by
  refine CT.of RX10 rfl (by decide) (Nat.le_of_ble_eq_true rfl) rfl rfl (fun Γ C hR => ?_)
  show GW Γ 7 E σ 0 [(0, .ref (E.2.1 0)), (1, .long p0), (3, .int p1)] []
  rw [f_X10_digestTune] at hf
  refine g_aload_n C 0 dX10_digestTune_0 rfl ?_
  refine fg_X10_32_0 C dX10_digestTune_1 ?_
  refine g_iload_n C 2 dX10_digestTune_4 rfl ?_
  obtain ⟨r2, h1, hf⟩ := o_bind hf
  refine g_callV C 6 (c_X3_tuneOf l E h1) cls_3 k_X10_84 ⟨rfl, rfl, Nat.le_of_ble_eq_true rfl, Nat.le_of_ble_eq_true rfl⟩ (by decide) rfl rfl (Nat.le_of_ble_eq_true rfl) dX10_digestTune_5 _ rfl ?_
  refine g_lconst C dX10_digestTune_8 (v := 0) (by decide) ?_
  refine g_lcmp_ne (tgt := 15) C dX10_digestTune_9 dX10_digestTune_10 (by decide) (fun c3 => ?_) (fun c3 => ?_)
  · rw [if_neg c3] at hf
    refine g_lload_n C 1 dX10_digestTune_15 rfl ?_
    refine g_lstore C dX10_digestTune_16 (by decide) [(4, .long p0), (0, .ref (E.2.1 0)), (1, .long p0), (3, .int p1)] rfl ?_
    refine g_iconst C dX10_digestTune_18 (v := 0) (by decide) ?_
    refine g_istore C dX10_digestTune_19 (by decide) [(6, .int 0), (4, .long p0), (0, .ref (E.2.1 0)), (1, .long p0), (3, .int p1)] rfl ?_
    exact g_lv [(0, .ref (E.2.1 0)), (3, .int p1), (4, .long p0), (6, .int 0)] [2, 4, 1, 0] rfl (t_X10_digestTune_L21 C hR fuel p1 p0 0 hf)
  · rw [if_pos c3] at hf
    refine g_lload_n C 1 dX10_digestTune_13 rfl ?_
    exact g_lretR C hR hf dX10_digestTune_14
abbrev rm_X10_digest : Room := { frames := 39, cells := 0, slots := 0, locals := 978 }
set_option maxRecDepth 100000 in
set_option maxHeartbeats 4000000 in
theorem t_X10_digest_L166 {Γ : CX} {l : Launch} {E : EV} {rr : Int64} {ss : ST} (C : FX Γ l cX10_digest 5 RX10 rm_X10_digest E) (hR : RT Γ (some .long) E (some (.long rr)) ss) : ∀ (n : Nat) (v1 : Int64) (v3 : Int32) (σ : ST), f_X10_digest_L166 n v1 v3 σ = some (rr, ss) → GW Γ 5 E σ 166 [(0, .ref (E.2.1 0)), (1, .long v1), (3, .int v3)] [] := by
  intro n
  induction n with
  | zero => intro v1 v3 σ hf; exact nomatch hf
  | succ n ih =>
    intro v1 v3 σ hf
    rw [f_X10_digest_L166] at hf
    refine g_iload_n C 2 dX10_digest_166 rfl ?_
    refine g_bipush C dX10_digest_167 (v := 12) (by decide) ?_
    refine g_icmp_gt (tgt := 188) C dX10_digest_169 (by decide) (fun c7 => ?_) (fun c7 => ?_)
    · rw [if_pos c7] at hf
      refine g_lload_n C 1 dX10_digest_188 rfl ?_
      exact g_lretW C hR hf dX10_digest_189
    · rw [if_neg c7] at hf
      refine g_lload_n C 1 dX10_digest_172 rfl ?_
      refine g_aload_n C 0 dX10_digest_173 rfl ?_
      refine g_iload_n C 2 dX10_digest_174 rfl ?_
      obtain ⟨r9, h8, hf⟩ := o_bind hf
      refine g_callV C 0 (c_X10_count l E h8) cls_9 k_X10_281 ⟨rfl, rfl, Nat.le_of_ble_eq_true rfl, Nat.le_of_ble_eq_true rfl⟩ (by decide) rfl rfl (Nat.le_of_ble_eq_true rfl) dX10_digest_175 _ rfl ?_
      obtain ⟨r11, h10, hf⟩ := o_bind hf
      refine g_callS C (c_X10_mix l E h10) k_X10_264 ⟨rfl, rfl, Nat.le_of_ble_eq_true rfl, Nat.le_of_ble_eq_true rfl⟩ rfl (Nat.le_of_ble_eq_true rfl) dX10_digest_178 _ rfl ?_
      refine g_lstore_n C dX10_digest_181 (by decide) [(1, .long r11), (0, .ref (E.2.1 0)), (3, .int v3)] rfl ?_
      obtain ⟨x12, hx12, hf⟩ := o_let hf
      refine g_iinc C 2 dX10_digest_182 rfl hx12 (by decide) [(3, .int x12), (1, .long r11), (0, .ref (E.2.1 0))] rfl ?_
      refine g_goto (tgt := 166) C dX10_digest_185 (by decide) ?_
      exact g_lv [(0, .ref (E.2.1 0)), (1, .long r11), (3, .int x12)] [2, 1, 0] rfl (ih r11 x12 σ hf)
set_option maxRecDepth 100000 in
set_option maxHeartbeats 4000000 in
theorem t_X10_digest_B164 {Γ : CX} {l : Launch} {E : EV} {rr : Int64} {ss : ST} (C : FX Γ l cX10_digest 5 RX10 rm_X10_digest E) (hR : RT Γ (some .long) E (some (.long rr)) ss) (v1 : Int64) (σ : ST) (hf : f_X10_digest_B164 v1 σ = some (rr, ss)) : GW Γ 5 E σ 164 [(0, .ref (E.2.1 0)), (1, .long v1)] [] := by
  rw [f_X10_digest_B164] at hf
  refine g_iconst C dX10_digest_164 (v := 0) (by decide) ?_
  refine g_istore_n C dX10_digest_165 (by decide) [(3, .int 0), (0, .ref (E.2.1 0)), (1, .long v1)] rfl ?_
  exact g_lv [(0, .ref (E.2.1 0)), (1, .long v1), (3, .int 0)] [1, 2, 0] rfl (t_X10_digest_L166 C hR fuel v1 0 σ hf)
set_option maxRecDepth 100000 in
set_option maxHeartbeats 4000000 in
theorem t_X10_digest_L134 {Γ : CX} {l : Launch} {E : EV} {rr : Int64} {ss : ST} (C : FX Γ l cX10_digest 5 RX10 rm_X10_digest E) (hR : RT Γ (some .long) E (some (.long rr)) ss) : ∀ (n : Nat) (v1 : Int64) (v3 : Int32) (σ : ST), f_X10_digest_L134 n v1 v3 σ = some (rr, ss) → GW Γ 5 E σ 134 [(0, .ref (E.2.1 0)), (1, .long v1), (3, .int v3)] [] := by
  intro n
  induction n with
  | zero => intro v1 v3 σ hf; exact nomatch hf
  | succ n ih =>
    intro v1 v3 σ hf
    rw [f_X10_digest_L134] at hf
    refine g_iload_n C 2 dX10_digest_134 rfl ?_
    refine g_aload_n C 0 dX10_digest_135 rfl ?_
    refine fg_X10_10_0 C dX10_digest_136 ?_
    refine fg_X10_39_1 C dX10_digest_139 ?_
    refine g_icmp_ge (tgt := 164) C dX10_digest_142 (by decide) (fun c6 => ?_) (fun c6 => ?_)
    · rw [if_pos c6] at hf
      exact g_lv [(0, .ref (E.2.1 0)), (1, .long v1)] [0, 1] rfl (t_X10_digest_B164 C hR v1 σ hf)
    · rw [if_neg c6] at hf
      refine g_lload_n C 1 dX10_digest_145 rfl ?_
      refine g_aload_n C 0 dX10_digest_146 rfl ?_
      refine fg_X10_10_0 C dX10_digest_147 ?_
      refine g_iload_n C 2 dX10_digest_150 rfl ?_
      obtain ⟨r14, h13, hf⟩ := o_bind hf
      refine g_callV C 1 (c_X4_at l E h13) cls_4 k_X10_279 ⟨rfl, rfl, Nat.le_of_ble_eq_true rfl, Nat.le_of_ble_eq_true rfl⟩ (by decide) rfl rfl (Nat.le_of_ble_eq_true rfl) dX10_digest_151 _ rfl ?_
      obtain ⟨r16, h15, hf⟩ := o_bind hf
      refine g_callS C (c_X10_mix l E h15) k_X10_264 ⟨rfl, rfl, Nat.le_of_ble_eq_true rfl, Nat.le_of_ble_eq_true rfl⟩ rfl (Nat.le_of_ble_eq_true rfl) dX10_digest_154 _ rfl ?_
      refine g_lstore_n C dX10_digest_157 (by decide) [(1, .long r16), (0, .ref (E.2.1 0)), (3, .int v3)] rfl ?_
      obtain ⟨x17, hx17, hf⟩ := o_let hf
      refine g_iinc C 2 dX10_digest_158 rfl hx17 (by decide) [(3, .int x17), (1, .long r16), (0, .ref (E.2.1 0))] rfl ?_
      refine g_goto (tgt := 134) C dX10_digest_161 (by decide) ?_
      exact g_lv [(0, .ref (E.2.1 0)), (1, .long r16), (3, .int x17)] [2, 1, 0] rfl (ih r16 x17 σ hf)
set_option maxRecDepth 100000 in
set_option maxHeartbeats 4000000 in
theorem t_X10_digest_B132 {Γ : CX} {l : Launch} {E : EV} {rr : Int64} {ss : ST} (C : FX Γ l cX10_digest 5 RX10 rm_X10_digest E) (hR : RT Γ (some .long) E (some (.long rr)) ss) (v1 : Int64) (σ : ST) (hf : f_X10_digest_B132 v1 σ = some (rr, ss)) : GW Γ 5 E σ 132 [(0, .ref (E.2.1 0)), (1, .long v1)] [] := by
  rw [f_X10_digest_B132] at hf
  refine g_iconst C dX10_digest_132 (v := 0) (by decide) ?_
  refine g_istore_n C dX10_digest_133 (by decide) [(3, .int 0), (0, .ref (E.2.1 0)), (1, .long v1)] rfl ?_
  exact g_lv [(0, .ref (E.2.1 0)), (1, .long v1), (3, .int 0)] [1, 2, 0] rfl (t_X10_digest_L134 C hR fuel v1 0 σ hf)
set_option maxRecDepth 100000 in
set_option maxHeartbeats 4000000 in
theorem t_X10_digest_B99 {Γ : CX} {l : Launch} {E : EV} {rr : Int64} {ss : ST} (C : FX Γ l cX10_digest 5 RX10 rm_X10_digest E) (hR : RT Γ (some .long) E (some (.long rr)) ss) (v1 : Int64) (σ : ST) (hf : f_X10_digest_B99 v1 σ = some (rr, ss)) : GW Γ 5 E σ 99 [(0, .ref (E.2.1 0)), (1, .long v1)] [] := by
  rw [f_X10_digest_B99] at hf
  refine g_aload_n C 0 dX10_digest_99 rfl ?_
  obtain ⟨r4, h3, hf⟩ := o_bind hf
  refine g_callV C 0 (c_X10_noCity l E h3) cls_9 k_X10_188 ⟨rfl, rfl, Nat.le_of_ble_eq_true rfl, Nat.le_of_ble_eq_true rfl⟩ (by decide) rfl rfl (Nat.le_of_ble_eq_true rfl) dX10_digest_100 _ rfl ?_
  refine g_if_ne (y := 0) (tgt := 132) C dX10_digest_103 (by decide) (fun c5 => ?_) (fun c5 => ?_)
  · rw [if_neg c5] at hf
    exact t_X10_digest_B132 C hR v1 σ hf
  · rw [if_pos c5] at hf
    refine g_aload_n C 0 dX10_digest_106 rfl ?_
    obtain ⟨r19, h18, hf⟩ := o_bind hf
    refine g_callV C 0 (c_X10_noTunes l E h18) cls_9 k_X10_199 ⟨rfl, rfl, Nat.le_of_ble_eq_true rfl, Nat.le_of_ble_eq_true rfl⟩ (by decide) rfl rfl (Nat.le_of_ble_eq_true rfl) dX10_digest_107 _ rfl ?_
    refine g_if_ne (y := 0) (tgt := 132) C dX10_digest_110 (by decide) (fun c20 => ?_) (fun c20 => ?_)
    · rw [if_neg c20] at hf
      exact t_X10_digest_B132 C hR v1 σ hf
    · rw [if_pos c20] at hf
      refine g_lload_n C 1 dX10_digest_113 rfl ?_
      refine g_aload_n C 0 dX10_digest_114 rfl ?_
      refine g_iconst C dX10_digest_115 (v := 2) (by decide) ?_
      obtain ⟨r23, σ22, h21, hf⟩ := o_bind2 hf
      refine g_callV C 0 (c_X10_become l E h21) cls_9 k_X10_273 ⟨rfl, rfl, Nat.le_of_ble_eq_true rfl, Nat.le_of_ble_eq_true rfl⟩ (by decide) rfl rfl (Nat.le_of_ble_eq_true rfl) dX10_digest_116 _ rfl ?_
      obtain ⟨r25, h24, hf⟩ := o_bind hf
      refine g_callS C (c_X10_mix l E h24) k_X10_264 ⟨rfl, rfl, Nat.le_of_ble_eq_true rfl, Nat.le_of_ble_eq_true rfl⟩ rfl (Nat.le_of_ble_eq_true rfl) dX10_digest_119 _ rfl ?_
      refine g_lstore_n C dX10_digest_122 (by decide) [(1, .long r25), (0, .ref (E.2.1 0))] rfl ?_
      refine g_lload_n C 0 dX10_digest_123 rfl ?_
      refine g_aload_n C 1 dX10_digest_124 rfl ?_
      obtain ⟨r27, h26, hf⟩ := o_bind hf
      refine g_callV C 0 (c_X10_near l E h26) cls_9 k_X10_276 ⟨rfl, rfl, Nat.le_of_ble_eq_true rfl, Nat.le_of_ble_eq_true rfl⟩ (by decide) rfl rfl (Nat.le_of_ble_eq_true rfl) dX10_digest_125 _ rfl ?_
      obtain ⟨r29, h28, hf⟩ := o_bind hf
      refine g_callS C (c_X10_mix l E h28) k_X10_264 ⟨rfl, rfl, Nat.le_of_ble_eq_true rfl, Nat.le_of_ble_eq_true rfl⟩ rfl (Nat.le_of_ble_eq_true rfl) dX10_digest_128 _ rfl ?_
      refine g_lstore_n C dX10_digest_131 (by decide) [(1, .long r29), (0, .ref (E.2.1 0))] rfl ?_
      exact g_lv [(0, .ref (E.2.1 0)), (1, .long r29)] [1, 0] rfl (t_X10_digest_B132 C hR r29 σ22 hf)
set_option maxRecDepth 100000 in
set_option maxHeartbeats 4000000 in
theorem t_X10_digest_L81 {Γ : CX} {l : Launch} {E : EV} {rr : Int64} {ss : ST} (C : FX Γ l cX10_digest 5 RX10 rm_X10_digest E) (hR : RT Γ (some .long) E (some (.long rr)) ss) : ∀ (n : Nat) (v1 : Int64) (v3 : Int32) (σ : ST), f_X10_digest_L81 n v1 v3 σ = some (rr, ss) → GW Γ 5 E σ 81 [(0, .ref (E.2.1 0)), (1, .long v1), (3, .int v3)] [] := by
  intro n
  induction n with
  | zero => intro v1 v3 σ hf; exact nomatch hf
  | succ n ih =>
    intro v1 v3 σ hf
    rw [f_X10_digest_L81] at hf
    refine g_iload_n C 2 dX10_digest_81 rfl ?_
    refine g_iconst C dX10_digest_82 (v := 1) (by decide) ?_
    refine g_icmp_gt (tgt := 99) C dX10_digest_83 (by decide) (fun c2 => ?_) (fun c2 => ?_)
    · rw [if_pos c2] at hf
      exact g_lv [(0, .ref (E.2.1 0)), (1, .long v1)] [0, 1] rfl (t_X10_digest_B99 C hR v1 σ hf)
    · rw [if_neg c2] at hf
      refine g_aload_n C 0 dX10_digest_86 rfl ?_
      refine g_lload_n C 1 dX10_digest_87 rfl ?_
      refine g_iload_n C 2 dX10_digest_88 rfl ?_
      obtain ⟨r31, h30, hf⟩ := o_bind hf
      refine g_callV C 0 (c_X10_digestTune l E h30) cls_9 k_X10_270 ⟨rfl, rfl, Nat.le_of_ble_eq_true rfl, Nat.le_of_ble_eq_true rfl⟩ (by decide) rfl rfl (Nat.le_of_ble_eq_true rfl) dX10_digest_89 _ rfl ?_
      refine g_lstore_n C dX10_digest_92 (by decide) [(1, .long r31), (0, .ref (E.2.1 0)), (3, .int v3)] rfl ?_
      obtain ⟨x32, hx32, hf⟩ := o_let hf
      refine g_iinc C 2 dX10_digest_93 rfl hx32 (by decide) [(3, .int x32), (1, .long r31), (0, .ref (E.2.1 0))] rfl ?_
      refine g_goto (tgt := 81) C dX10_digest_96 (by decide) ?_
      exact g_lv [(0, .ref (E.2.1 0)), (1, .long r31), (3, .int x32)] [2, 1, 0] rfl (ih r31 x32 σ hf)
set_option maxRecDepth 100000 in
set_option maxHeartbeats 4000000 in
theorem t_X10_digest_B79 {Γ : CX} {l : Launch} {E : EV} {rr : Int64} {ss : ST} (C : FX Γ l cX10_digest 5 RX10 rm_X10_digest E) (hR : RT Γ (some .long) E (some (.long rr)) ss) (v1 : Int64) (σ : ST) (hf : f_X10_digest_B79 v1 σ = some (rr, ss)) : GW Γ 5 E σ 79 [(0, .ref (E.2.1 0)), (1, .long v1)] [] := by
  rw [f_X10_digest_B79] at hf
  refine g_iconst C dX10_digest_79 (v := 0) (by decide) ?_
  refine g_istore_n C dX10_digest_80 (by decide) [(3, .int 0), (0, .ref (E.2.1 0)), (1, .long v1)] rfl ?_
  exact g_lv [(0, .ref (E.2.1 0)), (1, .long v1), (3, .int 0)] [1, 2, 0] rfl (t_X10_digest_L81 C hR fuel v1 0 σ hf)
set_option maxRecDepth 100000 in
set_option maxHeartbeats 4000000 in
theorem t_X10_digest_L48 {Γ : CX} {l : Launch} {E : EV} {rr : Int64} {ss : ST} (k_6 : Int64 → Int32 → ST → Option (Int64 × ST)) (C : FX Γ l cX10_digest 5 RX10 rm_X10_digest E) (hR : RT Γ (some .long) E (some (.long rr)) ss) (hk_6 : ∀ (v1 : Int64) (v3 : Int32) (σ : ST), k_6 v1 v3 σ = some (rr, ss) → GW Γ 5 E σ 6 [(0, .ref (E.2.1 0)), (1, .long v1), (3, .int v3)] []) : ∀ (n : Nat) (v1 : Int64) (v3 : Int32) (v4 : Int32) (σ : ST), f_X10_digest_L48 k_6 n v1 v3 v4 σ = some (rr, ss) → GW Γ 5 E σ 48 [(0, .ref (E.2.1 0)), (1, .long v1), (3, .int v3), (4, .int v4)] [] := by
  intro n
  induction n with
  | zero => intro v1 v3 v4 σ hf; exact nomatch hf
  | succ n ih =>
    intro v1 v3 v4 σ hf
    rw [f_X10_digest_L48] at hf
    refine g_iload C 3 dX10_digest_48 rfl ?_
    refine g_bipush C dX10_digest_50 (v := 12) (by decide) ?_
    refine g_icmp_ge (tgt := 73) C dX10_digest_52 (by decide) (fun c34 => ?_) (fun c34 => ?_)
    · rw [if_pos c34] at hf
      obtain ⟨x35, hx35, hf⟩ := o_let hf
      refine g_iinc C 2 dX10_digest_73 rfl hx35 (by decide) [(3, .int x35), (0, .ref (E.2.1 0)), (1, .long v1), (4, .int v4)] rfl ?_
      refine g_goto (tgt := 6) C dX10_digest_76 (by decide) ?_
      exact g_lv [(0, .ref (E.2.1 0)), (1, .long v1), (3, .int x35)] [1, 2, 0] rfl (hk_6 v1 x35 σ hf)
    · rw [if_neg c34] at hf
      refine g_lload_n C 1 dX10_digest_55 rfl ?_
      refine g_aload_n C 0 dX10_digest_56 rfl ?_
      refine g_iload_n C 2 dX10_digest_57 rfl ?_
      refine g_iload C 3 dX10_digest_58 rfl ?_
      obtain ⟨r37, h36, hf⟩ := o_bind hf
      refine g_callV C 0 (c_X10_comes l E h36) cls_9 k_X10_267 ⟨rfl, rfl, Nat.le_of_ble_eq_true rfl, Nat.le_of_ble_eq_true rfl⟩ (by decide) rfl rfl (Nat.le_of_ble_eq_true rfl) dX10_digest_60 _ rfl ?_
      obtain ⟨r39, h38, hf⟩ := o_bind hf
      refine g_callS C (c_X10_mix l E h38) k_X10_264 ⟨rfl, rfl, Nat.le_of_ble_eq_true rfl, Nat.le_of_ble_eq_true rfl⟩ rfl (Nat.le_of_ble_eq_true rfl) dX10_digest_63 _ rfl ?_
      refine g_lstore_n C dX10_digest_66 (by decide) [(1, .long r39), (0, .ref (E.2.1 0)), (3, .int v3), (4, .int v4)] rfl ?_
      obtain ⟨x40, hx40, hf⟩ := o_let hf
      refine g_iinc C 3 dX10_digest_67 rfl hx40 (by decide) [(4, .int x40), (1, .long r39), (0, .ref (E.2.1 0)), (3, .int v3)] rfl ?_
      refine g_goto (tgt := 48) C dX10_digest_70 (by decide) ?_
      exact g_lv [(0, .ref (E.2.1 0)), (1, .long r39), (3, .int v3), (4, .int x40)] [2, 1, 3, 0] rfl (ih r39 v3 x40 σ hf)
set_option maxRecDepth 100000 in
set_option maxHeartbeats 4000000 in
theorem t_X10_digest_B45 {Γ : CX} {l : Launch} {E : EV} {rr : Int64} {ss : ST} (k_6 : Int64 → Int32 → ST → Option (Int64 × ST)) (C : FX Γ l cX10_digest 5 RX10 rm_X10_digest E) (hR : RT Γ (some .long) E (some (.long rr)) ss) (hk_6 : ∀ (v1 : Int64) (v3 : Int32) (σ : ST), k_6 v1 v3 σ = some (rr, ss) → GW Γ 5 E σ 6 [(0, .ref (E.2.1 0)), (1, .long v1), (3, .int v3)] []) (v1 : Int64) (v3 : Int32) (σ : ST) (hf : f_X10_digest_B45 k_6 v1 v3 σ = some (rr, ss)) : GW Γ 5 E σ 45 [(0, .ref (E.2.1 0)), (1, .long v1), (3, .int v3)] [] := by
  rw [f_X10_digest_B45] at hf
  refine g_iconst C dX10_digest_45 (v := 0) (by decide) ?_
  refine g_istore C dX10_digest_46 (by decide) [(4, .int 0), (0, .ref (E.2.1 0)), (1, .long v1), (3, .int v3)] rfl ?_
  exact g_lv [(0, .ref (E.2.1 0)), (1, .long v1), (3, .int v3), (4, .int 0)] [1, 2, 3, 0] rfl (t_X10_digest_L48 k_6 C hR hk_6 fuel v1 v3 0 σ hf)
set_option maxRecDepth 100000 in
set_option maxHeartbeats 4000000 in
theorem t_X10_digest_L20 {Γ : CX} {l : Launch} {E : EV} {rr : Int64} {ss : ST} (k_6 : Int64 → Int32 → ST → Option (Int64 × ST)) (C : FX Γ l cX10_digest 5 RX10 rm_X10_digest E) (hR : RT Γ (some .long) E (some (.long rr)) ss) (hk_6 : ∀ (v1 : Int64) (v3 : Int32) (σ : ST), k_6 v1 v3 σ = some (rr, ss) → GW Γ 5 E σ 6 [(0, .ref (E.2.1 0)), (1, .long v1), (3, .int v3)] []) : ∀ (n : Nat) (v1 : Int64) (v3 : Int32) (v4 : Int32) (σ : ST), f_X10_digest_L20 k_6 n v1 v3 v4 σ = some (rr, ss) → GW Γ 5 E σ 20 [(0, .ref (E.2.1 0)), (1, .long v1), (3, .int v3), (4, .int v4)] [] := by
  intro n
  induction n with
  | zero => intro v1 v3 v4 σ hf; exact nomatch hf
  | succ n ih =>
    intro v1 v3 v4 σ hf
    rw [f_X10_digest_L20] at hf
    refine g_iload C 3 dX10_digest_20 rfl ?_
    refine g_bipush C dX10_digest_22 (v := 8) (by decide) ?_
    refine g_icmp_gt (tgt := 45) C dX10_digest_24 (by decide) (fun c33 => ?_) (fun c33 => ?_)
    · rw [if_pos c33] at hf
      exact g_lv [(0, .ref (E.2.1 0)), (1, .long v1), (3, .int v3)] [0, 1, 2] rfl (t_X10_digest_B45 k_6 C hR hk_6 v1 v3 σ hf)
    · rw [if_neg c33] at hf
      refine g_lload_n C 1 dX10_digest_27 rfl ?_
      refine g_aload_n C 0 dX10_digest_28 rfl ?_
      refine g_iload_n C 2 dX10_digest_29 rfl ?_
      refine g_iload C 3 dX10_digest_30 rfl ?_
      obtain ⟨r42, h41, hf⟩ := o_bind hf
      refine g_callV C 0 (c_X10_street l E h41) cls_9 k_X10_261 ⟨rfl, rfl, Nat.le_of_ble_eq_true rfl, Nat.le_of_ble_eq_true rfl⟩ (by decide) rfl rfl (Nat.le_of_ble_eq_true rfl) dX10_digest_32 _ rfl ?_
      obtain ⟨r44, h43, hf⟩ := o_bind hf
      refine g_callS C (c_X10_mix l E h43) k_X10_264 ⟨rfl, rfl, Nat.le_of_ble_eq_true rfl, Nat.le_of_ble_eq_true rfl⟩ rfl (Nat.le_of_ble_eq_true rfl) dX10_digest_35 _ rfl ?_
      refine g_lstore_n C dX10_digest_38 (by decide) [(1, .long r44), (0, .ref (E.2.1 0)), (3, .int v3), (4, .int v4)] rfl ?_
      obtain ⟨x45, hx45, hf⟩ := o_let hf
      refine g_iinc C 3 dX10_digest_39 rfl hx45 (by decide) [(4, .int x45), (1, .long r44), (0, .ref (E.2.1 0)), (3, .int v3)] rfl ?_
      refine g_goto (tgt := 20) C dX10_digest_42 (by decide) ?_
      exact g_lv [(0, .ref (E.2.1 0)), (1, .long r44), (3, .int v3), (4, .int x45)] [2, 1, 3, 0] rfl (ih r44 v3 x45 σ hf)
set_option maxRecDepth 100000 in
set_option maxHeartbeats 4000000 in
theorem t_X10_digest_L6 {Γ : CX} {l : Launch} {E : EV} {rr : Int64} {ss : ST} (C : FX Γ l cX10_digest 5 RX10 rm_X10_digest E) (hR : RT Γ (some .long) E (some (.long rr)) ss) : ∀ (n : Nat) (v1 : Int64) (v3 : Int32) (σ : ST), f_X10_digest_L6 n v1 v3 σ = some (rr, ss) → GW Γ 5 E σ 6 [(0, .ref (E.2.1 0)), (1, .long v1), (3, .int v3)] [] := by
  intro n
  induction n with
  | zero => intro v1 v3 σ hf; exact nomatch hf
  | succ n ih =>
    intro v1 v3 σ hf
    rw [f_X10_digest_L6] at hf
    refine g_iload_n C 2 dX10_digest_6 rfl ?_
    refine g_aload_n C 0 dX10_digest_7 rfl ?_
    refine fg_X10_27_0 C dX10_digest_8 ?_
    refine fg_X10_61_4 C dX10_digest_11 ?_
    refine g_icmp_ge (tgt := 79) C dX10_digest_14 (by decide) (fun c1 => ?_) (fun c1 => ?_)
    · rw [if_pos c1] at hf
      exact g_lv [(0, .ref (E.2.1 0)), (1, .long v1)] [0, 1] rfl (t_X10_digest_B79 C hR v1 σ hf)
    · rw [if_neg c1] at hf
      refine g_iconst C dX10_digest_17 (v := 0) (by decide) ?_
      refine g_istore C dX10_digest_18 (by decide) [(4, .int 0), (0, .ref (E.2.1 0)), (1, .long v1), (3, .int v3)] rfl ?_
      exact g_lv [(0, .ref (E.2.1 0)), (1, .long v1), (3, .int v3), (4, .int 0)] [1, 2, 3, 0] rfl (t_X10_digest_L20 ((f_X10_digest_L6 n)) C hR ih fuel v1 v3 0 σ hf)
set_option maxRecDepth 100000 in
set_option maxHeartbeats 4000000 in
theorem c_X10_digest (l : Launch) (E : EV) {σ ss : ST} {rr : Int64} (hf : f_X10_digest σ = some (rr, ss)) : CT l E yX10_digest cX10_digest 5 (some .long) rm_X10_digest [.ref (E.2.1 0)] σ (some (.long rr)) ss := by
  refine CT.of RX10 rfl (by decide) (Nat.le_of_ble_eq_true rfl) rfl rfl (fun Γ C hR => ?_)
  show GW Γ 5 E σ 0 [(0, .ref (E.2.1 0))] []
  rw [f_X10_digest] at hf
  refine g_ldc2 C dX10_digest_0 (v := 1187) kl_X10_259 ?_
  refine g_lstore_n C dX10_digest_3 (by decide) [(1, .long 1187), (0, .ref (E.2.1 0))] rfl ?_
  refine g_iconst C dX10_digest_4 (v := 0) (by decide) ?_
  refine g_istore_n C dX10_digest_5 (by decide) [(3, .int 0), (1, .long 1187), (0, .ref (E.2.1 0))] rfl ?_
  exact g_lv [(0, .ref (E.2.1 0)), (1, .long 1187), (3, .int 0)] [2, 1, 0] rfl (t_X10_digest_L6 C hR fuel 1187 0 σ hf)
