abbrev rm_X3_copyI : Room := { frames := 1, cells := 0, slots := 0, locals := 40 }
set_option maxRecDepth 100000 in
set_option maxHeartbeats 4000000 in
theorem c_X3_copyI (l : Launch) (E : EV) {σ ss : ST} (hf : f_X3_copyI σ = some ss) : CT l E yX3_copy cX3_copy 2 none rm_X3_copyI [.ref (E.2.1 14), .ref (E.2.1 6)] σ none ss := by
  refine CT.of RX3 rfl (by decide) (Nat.le_of_ble_eq_true rfl) rfl rfl (fun Γ C hR => ?_)
  show GW Γ 2 E σ 0 [(0, .ref (E.2.1 14)), (1, .ref (E.2.1 6))] []
  rw [f_X3_copyI] at hf
  refine g_aload_n C 1 dX3_copy_0 rfl ?_
  refine fg_X3_9_6 C dX3_copy_1 ?_
  refine g_iconst C dX3_copy_4 (v := 0) (by decide) ?_
  refine g_aload_n C 0 dX3_copy_5 rfl ?_
  refine fg_X3_9_14 C dX3_copy_6 ?_
  refine g_iconst C dX3_copy_9 (v := 0) (by decide) ?_
  refine g_bipush C dX3_copy_10 (v := 8) (by decide) ?_
  obtain ⟨σ1, hσ1, hf⟩ := o_let hf
  refine g_acp C ar_7 ar_15 dX3_copy_12 acp_X3_58 (Nat.le_of_ble_eq_true rfl) (Nat.le_of_ble_eq_true rfl) (by decide) (k := 8) (by decide) (by decide) (by decide) hσ1 ?_
  refine g_aload_n C 1 dX3_copy_15 rfl ?_
  refine fg_X3_15_6 C dX3_copy_16 ?_
  refine g_iconst C dX3_copy_19 (v := 0) (by decide) ?_
  refine g_aload_n C 0 dX3_copy_20 rfl ?_
  refine fg_X3_15_14 C dX3_copy_21 ?_
  refine g_iconst C dX3_copy_24 (v := 0) (by decide) ?_
  refine g_bipush C dX3_copy_25 (v := 8) (by decide) ?_
  obtain ⟨σ2, hσ2, hf⟩ := o_let hf
  refine g_acp C ar_8 ar_16 dX3_copy_27 acp_X3_58 (Nat.le_of_ble_eq_true rfl) (Nat.le_of_ble_eq_true rfl) (by decide) (k := 8) (by decide) (by decide) (by decide) hσ2 ?_
  refine g_aload_n C 1 dX3_copy_30 rfl ?_
  refine fg_X3_18_6 C dX3_copy_31 ?_
  refine g_iconst C dX3_copy_34 (v := 0) (by decide) ?_
  refine g_aload_n C 0 dX3_copy_35 rfl ?_
  refine fg_X3_18_14 C dX3_copy_36 ?_
  refine g_iconst C dX3_copy_39 (v := 0) (by decide) ?_
  refine g_bipush C dX3_copy_40 (v := 6) (by decide) ?_
  obtain ⟨σ3, hσ3, hf⟩ := o_let hf
  refine g_acp C ar_9 ar_17 dX3_copy_42 acp_X3_58 (Nat.le_of_ble_eq_true rfl) (Nat.le_of_ble_eq_true rfl) (by decide) (k := 6) (by decide) (by decide) (by decide) hσ3 ?_
  refine g_aload_n C 1 dX3_copy_45 rfl ?_
  refine fg_X3_21_6 C dX3_copy_46 ?_
  refine g_iconst C dX3_copy_49 (v := 0) (by decide) ?_
  refine g_aload_n C 0 dX3_copy_50 rfl ?_
  refine fg_X3_21_14 C dX3_copy_51 ?_
  refine g_iconst C dX3_copy_54 (v := 0) (by decide) ?_
  refine g_bipush C dX3_copy_55 (v := 6) (by decide) ?_
  obtain ⟨σ4, hσ4, hf⟩ := o_let hf
  refine g_acp C ar_10 ar_18 dX3_copy_57 acp_X3_58 (Nat.le_of_ble_eq_true rfl) (Nat.le_of_ble_eq_true rfl) (by decide) (k := 6) (by decide) (by decide) (by decide) hσ4 ?_
  refine g_aload_n C 1 dX3_copy_60 rfl ?_
  refine fg_X3_24_6 C dX3_copy_61 ?_
  refine g_iconst C dX3_copy_64 (v := 0) (by decide) ?_
  refine g_aload_n C 0 dX3_copy_65 rfl ?_
  refine fg_X3_24_14 C dX3_copy_66 ?_
  refine g_iconst C dX3_copy_69 (v := 0) (by decide) ?_
  refine g_bipush C dX3_copy_70 (v := 6) (by decide) ?_
  obtain ⟨σ5, hσ5, hf⟩ := o_let hf
  refine g_acp C ar_11 ar_19 dX3_copy_72 acp_X3_58 (Nat.le_of_ble_eq_true rfl) (Nat.le_of_ble_eq_true rfl) (by decide) (k := 6) (by decide) (by decide) (by decide) hσ5 ?_
  refine g_aload_n C 0 dX3_copy_75 rfl ?_
  refine g_aload_n C 1 dX3_copy_76 rfl ?_
  refine fg_X3_27_6 C dX3_copy_77 ?_
  obtain ⟨σ6, hσ6, hf⟩ := o_let hf
  refine fp_X3_27_14 C dX3_copy_80 hσ6 ?_
  refine g_aload_n C 0 dX3_copy_83 rfl ?_
  refine g_aload_n C 1 dX3_copy_84 rfl ?_
  refine fg_X3_31_6 C dX3_copy_85 ?_
  obtain ⟨σ7, hσ7, hf⟩ := o_let hf
  refine fp_X3_31_14 C dX3_copy_88 hσ7 ?_
  refine g_aload_n C 0 dX3_copy_91 rfl ?_
  refine g_aload_n C 1 dX3_copy_92 rfl ?_
  refine fg_X3_44_6 C dX3_copy_93 ?_
  obtain ⟨σ8, hσ8, hf⟩ := o_let hf
  refine fp_X3_44_14 C dX3_copy_96 hσ8 ?_
  refine g_aload_n C 0 dX3_copy_99 rfl ?_
  refine g_aload_n C 1 dX3_copy_100 rfl ?_
  refine fg_X3_48_6 C dX3_copy_101 ?_
  obtain ⟨h10, hf⟩ := o_if hf
  obtain ⟨σ9, hσ9, hf⟩ := o_let hf
  refine fp_X3_48_14 C dX3_copy_104 h10 hσ9 ?_
  refine g_aload_n C 0 dX3_copy_107 rfl ?_
  refine g_aload_n C 1 dX3_copy_108 rfl ?_
  refine fg_X3_52_6 C dX3_copy_109 ?_
  obtain ⟨σ11, hσ11, hf⟩ := o_let hf
  refine fp_X3_52_14 C dX3_copy_112 hσ11 ?_
  refine g_aload_n C 0 dX3_copy_115 rfl ?_
  refine g_aload_n C 1 dX3_copy_116 rfl ?_
  refine fg_X3_55_6 C dX3_copy_117 ?_
  obtain ⟨σ12, hσ12, hf⟩ := o_let hf
  refine fp_X3_55_14 C dX3_copy_120 hσ12 ?_
  exact g_vretW C hR hf dX3_copy_123
abbrev rm_X3_tuneOf : Room := { frames := 0, cells := 0, slots := 0, locals := 0 }
set_option maxRecDepth 100000 in
set_option maxHeartbeats 4000000 in
theorem c_X3_tuneOf (l : Launch) (E : EV) {σ : ST} {p0 : Int32} {rr : Int64} (hf : f_X3_tuneOf σ p0 = some rr) : CT l E yX3_tuneOf cX3_tuneOf 2 (some .long) rm_X3_tuneOf [.ref (E.2.1 6), .int p0] σ (some (.long rr)) σ := by
  refine CT.of RX3 rfl (by decide) (Nat.le_of_ble_eq_true rfl) rfl rfl (fun Γ C hR => ?_)
  show GW Γ 2 E σ 0 [(0, .ref (E.2.1 6)), (1, .int p0)] []
  rw [f_X3_tuneOf] at hf
  refine g_iload_n C 1 dX3_tuneOf_0 rfl ?_
  refine g_if_ne (y := 0) (tgt := 9) C dX3_tuneOf_1 (by decide) (fun c1 => ?_) (fun c1 => ?_)
  · rw [if_neg c1] at hf
    refine g_iload_n C 1 dX3_tuneOf_9 rfl ?_
    refine g_iconst C dX3_tuneOf_10 (v := 1) (by decide) ?_
    refine g_icmp_ne (tgt := 21) C dX3_tuneOf_11 (by decide) (fun c2 => ?_) (fun c2 => ?_)
    · rw [if_neg c2] at hf
      refine g_lconst C dX3_tuneOf_21 (v := 0) (by decide) ?_
      exact g_lretR C hR hf dX3_tuneOf_22
    · rw [if_pos c2] at hf
      refine g_aload_n C 0 dX3_tuneOf_14 rfl ?_
      refine fg_X3_31_6 C dX3_tuneOf_15 ?_
      refine g_goto (tgt := 22) C dX3_tuneOf_18 (by decide) ?_
      exact g_lretR C hR hf dX3_tuneOf_22
  · rw [if_pos c1] at hf
    refine g_aload_n C 0 dX3_tuneOf_4 rfl ?_
    refine fg_X3_27_6 C dX3_tuneOf_5 ?_
    exact g_lretR C hR hf dX3_tuneOf_8
abbrev rm_X3_setTune : Room := { frames := 0, cells := 0, slots := 0, locals := 0 }
set_option maxRecDepth 100000 in
set_option maxHeartbeats 4000000 in
theorem c_X3_setTune (l : Launch) (E : EV) {σ ss : ST} {p0 : Int32} {p1 : Int64} (hf : f_X3_setTune p0 p1 σ = some ss) : CT l E yX3_setTune cX3_setTune 4 none rm_X3_setTune [.ref (E.2.1 6), .int p0, .long p1] σ none ss := by
  refine CT.of RX3 rfl (by decide) (Nat.le_of_ble_eq_true rfl) rfl rfl (fun Γ C hR => ?_)
  show GW Γ 4 E σ 0 [(0, .ref (E.2.1 6)), (1, .int p0), (2, .long p1)] []
  rw [f_X3_setTune] at hf
  refine g_iload_n C 1 dX3_setTune_0 rfl ?_
  refine g_if_ne (y := 0) (tgt := 12) C dX3_setTune_1 (by decide) (fun c1 => ?_) (fun c1 => ?_)
  · rw [if_neg c1] at hf
    refine g_aload_n C 0 dX3_setTune_12 rfl ?_
    refine g_lload_n C 2 dX3_setTune_13 rfl ?_
    obtain ⟨σ2, hσ2, hf⟩ := o_let hf
    refine fp_X3_31_6 C dX3_setTune_14 hσ2 ?_
    exact g_vretW C hR hf dX3_setTune_17
  · rw [if_pos c1] at hf
    refine g_aload_n C 0 dX3_setTune_4 rfl ?_
    refine g_lload_n C 2 dX3_setTune_5 rfl ?_
    obtain ⟨σ3, hσ3, hf⟩ := o_let hf
    refine fp_X3_27_6 C dX3_setTune_6 hσ3 ?_
    refine g_goto (tgt := 17) C dX3_setTune_9 (by decide) ?_
    exact g_vretW C hR hf dX3_setTune_17
abbrev rm_X3_tonic : Room := { frames := 0, cells := 0, slots := 0, locals := 0 }
set_option maxRecDepth 100000 in
set_option maxHeartbeats 4000000 in
theorem c_X3_tonic (l : Launch) (E : EV) {σ : ST} {p0 : Int32} {rr : Int32} (hf : f_X3_tonic σ p0 = some rr) : CT l E yX3_tonic cX3_tonic 2 (some .int) rm_X3_tonic [.ref (E.2.1 6), .int p0] σ (some (.int rr)) σ := by
  refine CT.of RX3 rfl (by decide) (Nat.le_of_ble_eq_true rfl) rfl rfl (fun Γ C hR => ?_)
  show GW Γ 2 E σ 0 [(0, .ref (E.2.1 6)), (1, .int p0)] []
  rw [f_X3_tonic] at hf
  refine g_iload_n C 1 dX3_tonic_0 rfl ?_
  refine g_if_lt (y := 0) (tgt := 22) C dX3_tonic_1 (by decide) (fun c1 => ?_) (fun c1 => ?_)
  · rw [if_pos c1] at hf
    refine g_iconst C dX3_tonic_22 (v := 0) (by decide) ?_
    exact g_iretR C hR hf dX3_tonic_23
  · rw [if_neg c1] at hf
    refine g_iload_n C 1 dX3_tonic_4 rfl ?_
    refine g_aload_n C 0 dX3_tonic_5 rfl ?_
    refine fg_X3_9_6 C dX3_tonic_6 ?_
    refine g_alenA C ar_7 dX3_tonic_9 (v := 8) (by decide) ?_
    refine g_icmp_ge (tgt := 22) C dX3_tonic_10 (by decide) (fun c2 => ?_) (fun c2 => ?_)
    · rw [if_pos c2] at hf
      refine g_iconst C dX3_tonic_22 (v := 0) (by decide) ?_
      exact g_iretR C hR hf dX3_tonic_23
    · rw [if_neg c2] at hf
      refine g_aload_n C 0 dX3_tonic_13 rfl ?_
      refine fg_X3_9_6 C dX3_tonic_14 ?_
      refine g_iload_n C 1 dX3_tonic_17 rfl ?_
      obtain ⟨h3, hf⟩ := o_if hf
      refine g_ald C ar_7 dX3_tonic_18 (k := p0.toNatClampNeg) rfl h3 ?_
      refine g_goto (tgt := 23) C dX3_tonic_19 (by decide) ?_
      exact g_iretR C hR hf dX3_tonic_23
abbrev rm_X3_walks : Room := { frames := 0, cells := 0, slots := 0, locals := 0 }
set_option maxRecDepth 100000 in
set_option maxHeartbeats 4000000 in
theorem c_X3_walks (l : Launch) (E : EV) {σ : ST} {p0 : Int32} {rr : Int32} (hf : f_X3_walks σ p0 = some rr) : CT l E yX3_walks cX3_walks 2 (some .int) rm_X3_walks [.ref (E.2.1 6), .int p0] σ (some (.int rr)) σ := by
  refine CT.of RX3 rfl (by decide) (Nat.le_of_ble_eq_true rfl) rfl rfl (fun Γ C hR => ?_)
  show GW Γ 2 E σ 0 [(0, .ref (E.2.1 6)), (1, .int p0)] []
  rw [f_X3_walks] at hf
  refine g_iload_n C 1 dX3_walks_0 rfl ?_
  refine g_if_lt (y := 0) (tgt := 22) C dX3_walks_1 (by decide) (fun c1 => ?_) (fun c1 => ?_)
  · rw [if_pos c1] at hf
    refine g_iconst C dX3_walks_22 (v := 0) (by decide) ?_
    exact g_iretR C hR hf dX3_walks_23
  · rw [if_neg c1] at hf
    refine g_iload_n C 1 dX3_walks_4 rfl ?_
    refine g_aload_n C 0 dX3_walks_5 rfl ?_
    refine fg_X3_15_6 C dX3_walks_6 ?_
    refine g_alenA C ar_8 dX3_walks_9 (v := 8) (by decide) ?_
    refine g_icmp_ge (tgt := 22) C dX3_walks_10 (by decide) (fun c2 => ?_) (fun c2 => ?_)
    · rw [if_pos c2] at hf
      refine g_iconst C dX3_walks_22 (v := 0) (by decide) ?_
      exact g_iretR C hR hf dX3_walks_23
    · rw [if_neg c2] at hf
      refine g_aload_n C 0 dX3_walks_13 rfl ?_
      refine fg_X3_15_6 C dX3_walks_14 ?_
      refine g_iload_n C 1 dX3_walks_17 rfl ?_
      obtain ⟨h3, hf⟩ := o_if hf
      refine g_ald C ar_8 dX3_walks_18 (k := p0.toNatClampNeg) rfl h3 ?_
      refine g_goto (tgt := 23) C dX3_walks_19 (by decide) ?_
      exact g_iretR C hR hf dX3_walks_23
abbrev rm_X3_addWalk : Room := { frames := 0, cells := 0, slots := 0, locals := 0 }
set_option maxRecDepth 100000 in
set_option maxHeartbeats 4000000 in
theorem c_X3_addWalk (l : Launch) (E : EV) {σ ss : ST} {p0 : Int32} (hf : f_X3_addWalk p0 σ = some ss) : CT l E yX3_addWalk cX3_addWalk 2 none rm_X3_addWalk [.ref (E.2.1 6), .int p0] σ none ss := by
  refine CT.of RX3 rfl (by decide) (Nat.le_of_ble_eq_true rfl) rfl rfl (fun Γ C hR => ?_)
  show GW Γ 2 E σ 0 [(0, .ref (E.2.1 6)), (1, .int p0)] []
  rw [f_X3_addWalk] at hf
  refine g_iload_n C 1 dX3_addWalk_0 rfl ?_
  refine g_if_lt (y := 0) (tgt := 33) C dX3_addWalk_1 (by decide) (fun c1 => ?_) (fun c1 => ?_)
  · rw [if_pos c1] at hf
    exact g_vretW C hR hf dX3_addWalk_33
  · rw [if_neg c1] at hf
    refine g_iload_n C 1 dX3_addWalk_4 rfl ?_
    refine g_aload_n C 0 dX3_addWalk_5 rfl ?_
    refine fg_X3_15_6 C dX3_addWalk_6 ?_
    refine g_alenA C ar_8 dX3_addWalk_9 (v := 8) (by decide) ?_
    refine g_icmp_ge (tgt := 33) C dX3_addWalk_10 (by decide) (fun c2 => ?_) (fun c2 => ?_)
    · rw [if_pos c2] at hf
      exact g_vretW C hR hf dX3_addWalk_33
    · rw [if_neg c2] at hf
      refine g_aload_n C 0 dX3_addWalk_13 rfl ?_
      refine fg_X3_15_6 C dX3_addWalk_14 ?_
      refine g_iload_n C 1 dX3_addWalk_17 rfl ?_
      refine g_dup2 C dX3_addWalk_18 rfl rfl ?_
      obtain ⟨h3, hf⟩ := o_if hf
      refine g_ald C ar_8 dX3_addWalk_19 (k := p0.toNatClampNeg) rfl h3 ?_
      refine g_iconst C dX3_addWalk_20 (v := 1) (by decide) ?_
      refine g_iadd C dX3_addWalk_21 ?_
      obtain ⟨h5, hf⟩ := o_if hf
      obtain ⟨σ4, hσ4, hf⟩ := o_let hf
      refine g_ast C ar_8 dX3_addWalk_22 (k := p0.toNatClampNeg) rfl h5 hσ4 ?_
      refine g_aload_n C 0 dX3_addWalk_23 rfl ?_
      refine g_dup C dX3_addWalk_24 rfl ?_
      refine fg_X3_52_6 C dX3_addWalk_25 ?_
      refine g_iconst C dX3_addWalk_28 (v := 1) (by decide) ?_
      refine g_iadd C dX3_addWalk_29 ?_
      obtain ⟨σ6, hσ6, hf⟩ := o_let hf
      refine fp_X3_52_6 C dX3_addWalk_30 hσ6 ?_
      exact g_vretW C hR hf dX3_addWalk_33
abbrev rm_X3_addSight : Room := { frames := 0, cells := 0, slots := 0, locals := 0 }
set_option maxRecDepth 100000 in
set_option maxHeartbeats 4000000 in
theorem c_X3_addSight (l : Launch) (E : EV) {σ ss : ST} {p0 : Int32} {p1 : Int32} {p2 : Int32} (hf : f_X3_addSight p0 p1 p2 σ = some ss) : CT l E yX3_addSight cX3_addSight 4 none rm_X3_addSight [.ref (E.2.1 6), .int p0, .int p1, .int p2] σ none ss := by
  refine CT.of RX3 rfl (by decide) (Nat.le_of_ble_eq_true rfl) rfl rfl (fun Γ C hR => ?_)
  show GW Γ 4 E σ 0 [(0, .ref (E.2.1 6)), (1, .int p0), (2, .int p1), (3, .int p2)] []
  rw [f_X3_addSight] at hf
  refine g_aload_n C 0 dX3_addSight_0 rfl ?_
  refine fg_X3_55_6 C dX3_addSight_1 ?_
  refine g_if_lt (y := 0) (tgt := 56) C dX3_addSight_4 (by decide) (fun c1 => ?_) (fun c1 => ?_)
  · rw [if_pos c1] at hf
    exact g_vretW C hR hf dX3_addSight_56
  · rw [if_neg c1] at hf
    refine g_aload_n C 0 dX3_addSight_7 rfl ?_
    refine fg_X3_55_6 C dX3_addSight_8 ?_
    refine g_bipush C dX3_addSight_11 (v := 6) (by decide) ?_
    refine g_icmp_ge (tgt := 56) C dX3_addSight_13 (by decide) (fun c2 => ?_) (fun c2 => ?_)
    · rw [if_pos c2] at hf
      exact g_vretW C hR hf dX3_addSight_56
    · rw [if_neg c2] at hf
      refine g_aload_n C 0 dX3_addSight_16 rfl ?_
      refine fg_X3_18_6 C dX3_addSight_17 ?_
      refine g_aload_n C 0 dX3_addSight_20 rfl ?_
      refine fg_X3_55_6 C dX3_addSight_21 ?_
      refine g_iload_n C 1 dX3_addSight_24 rfl ?_
      obtain ⟨h4, hf⟩ := o_if hf
      obtain ⟨σ3, hσ3, hf⟩ := o_let hf
      refine g_ast C ar_9 dX3_addSight_25 (k := (σ.1 6 10).toNatClampNeg) rfl h4 hσ3 ?_
      refine g_aload_n C 0 dX3_addSight_26 rfl ?_
      refine fg_X3_21_6 C dX3_addSight_27 ?_
      refine g_aload_n C 0 dX3_addSight_30 rfl ?_
      refine fg_X3_55_6 C dX3_addSight_31 ?_
      refine g_iload_n C 2 dX3_addSight_34 rfl ?_
      obtain ⟨h6, hf⟩ := o_if hf
      obtain ⟨σ5, hσ5, hf⟩ := o_let hf
      refine g_ast C ar_10 dX3_addSight_35 (k := (σ3.1 6 10).toNatClampNeg) rfl h6 hσ5 ?_
      refine g_aload_n C 0 dX3_addSight_36 rfl ?_
      refine fg_X3_24_6 C dX3_addSight_37 ?_
      refine g_aload_n C 0 dX3_addSight_40 rfl ?_
      refine fg_X3_55_6 C dX3_addSight_41 ?_
      refine g_iload_n C 3 dX3_addSight_44 rfl ?_
      obtain ⟨h8, hf⟩ := o_if hf
      obtain ⟨σ7, hσ7, hf⟩ := o_let hf
      refine g_ast C ar_11 dX3_addSight_45 (k := (σ5.1 6 10).toNatClampNeg) rfl h8 hσ7 ?_
      refine g_aload_n C 0 dX3_addSight_46 rfl ?_
      refine g_dup C dX3_addSight_47 rfl ?_
      refine fg_X3_55_6 C dX3_addSight_48 ?_
      refine g_iconst C dX3_addSight_51 (v := 1) (by decide) ?_
      refine g_iadd C dX3_addSight_52 ?_
      obtain ⟨σ9, hσ9, hf⟩ := o_let hf
      refine fp_X3_55_6 C dX3_addSight_53 hσ9 ?_
      exact g_vretW C hR hf dX3_addSight_56
abbrev rm_X3_fits : Room := { frames := 4, cells := 0, slots := 0, locals := 97 }
set_option maxRecDepth 100000 in
set_option maxHeartbeats 4000000 in
theorem t_X3_fits_L3 {Γ : CX} {l : Launch} {E : EV} {a1 : Nat} {σ : ST} {rr : Int32} (C : FX Γ l cX3_fits 5 RX3 rm_X3_fits E) (hR : RT Γ (some .boolean) E (some (.int rr)) σ) (hp1 : pv σ a1) : ∀ (n : Nat) (v2 : Int32) (v3 : Int32) (v4 : Int32), f_X3_fits_L3 a1 σ n v2 v3 v4 = some rr → GW Γ 5 E σ 3 [(0, .ref (E.2.1 6)), (1, .ref a1), (2, .int v2), (3, .int v3), (4, .int v4)] [] := by
  intro n
  induction n with
  | zero => intro v2 v3 v4 hf; exact nomatch hf
  | succ n ih =>
    intro v2 v3 v4 hf
    rw [f_X3_fits_L3] at hf
    refine g_iload C 4 dX3_fits_3 rfl ?_
    refine g_aload_n C 0 dX3_fits_5 rfl ?_
    refine fg_X3_55_6 C dX3_fits_6 ?_
    refine g_icmp_ge (tgt := 60) C dX3_fits_9 (by decide) (fun c1 => ?_) (fun c1 => ?_)
    · rw [if_pos c1] at hf
      refine g_iconst C dX3_fits_60 (v := 1) (by decide) ?_
      exact g_zretR C hR hf (by decide) dX3_fits_61
    · rw [if_neg c1] at hf
      refine g_iload C 4 dX3_fits_12 rfl ?_
      refine g_bipush C dX3_fits_14 (v := 6) (by decide) ?_
      refine g_icmp_ge (tgt := 60) C dX3_fits_16 (by decide) (fun c2 => ?_) (fun c2 => ?_)
      · rw [if_pos c2] at hf
        refine g_iconst C dX3_fits_60 (v := 1) (by decide) ?_
        exact g_zretR C hR hf (by decide) dX3_fits_61
      · rw [if_neg c2] at hf
        refine g_aload_n C 0 dX3_fits_19 rfl ?_
        refine fg_X3_18_6 C dX3_fits_20 ?_
        refine g_iload C 4 dX3_fits_23 rfl ?_
        obtain ⟨h3, hf⟩ := o_if hf
        refine g_ald C ar_9 dX3_fits_25 (k := v4.toNatClampNeg) rfl h3 ?_
        refine g_iload_n C 2 dX3_fits_26 rfl ?_
        refine g_icmp_ne (tgt := 54) C dX3_fits_27 (by decide) (fun c4 => ?_) (fun c4 => ?_)
        · rw [if_neg c4] at hf
          obtain ⟨x5, hx5, hf⟩ := o_let hf
          refine g_iinc C 4 dX3_fits_54 rfl hx5 (by decide) [(4, .int x5), (0, .ref (E.2.1 6)), (1, .ref a1), (2, .int v2), (3, .int v3)] rfl ?_
          refine g_goto (tgt := 3) C dX3_fits_57 (by decide) ?_
          exact g_lv [(0, .ref (E.2.1 6)), (1, .ref a1), (2, .int v2), (3, .int v3), (4, .int x5)] [1, 2, 3, 4, 0] rfl (ih v2 v3 x5 hf)
        · rw [if_pos c4] at hf
          refine g_aload_n C 1 dX3_fits_30 rfl ?_
          refine g_aload_n C 0 dX3_fits_31 rfl ?_
          refine fg_X3_21_6 C dX3_fits_32 ?_
          refine g_iload C 4 dX3_fits_35 rfl ?_
          obtain ⟨h6, hf⟩ := o_if hf
          refine g_ald C ar_10 dX3_fits_37 (k := v4.toNatClampNeg) rfl h6 ?_
          refine g_iload_n C 3 dX3_fits_38 rfl ?_
          obtain ⟨r8, h7, hf⟩ := o_bind hf
          have Kr8 : GW Γ 5 E σ 42 [(0, .ref (E.2.1 6)), (1, .ref a1), (2, .int v2), (3, .int v3), (4, .int v4)] [.int r8] := by
            refine g_aload_n C 0 dX3_fits_42 rfl ?_
            refine fg_X3_24_6 C dX3_fits_43 ?_
            refine g_iload C 4 dX3_fits_46 rfl ?_
            obtain ⟨h9, hf⟩ := o_if hf
            refine g_ald C ar_11 dX3_fits_48 (k := v4.toNatClampNeg) rfl h9 ?_
            refine g_icmp_eq (tgt := 54) C dX3_fits_49 (by decide) (fun c10 => ?_) (fun c10 => ?_)
            · rw [if_pos c10] at hf
              obtain ⟨x11, hx11, hf⟩ := o_let hf
              refine g_iinc C 4 dX3_fits_54 rfl hx11 (by decide) [(4, .int x11), (0, .ref (E.2.1 6)), (1, .ref a1), (2, .int v2), (3, .int v3)] rfl ?_
              refine g_goto (tgt := 3) C dX3_fits_57 (by decide) ?_
              exact g_lv [(0, .ref (E.2.1 6)), (1, .ref a1), (2, .int v2), (3, .int v3), (4, .int x11)] [1, 2, 3, 4, 0] rfl (ih v2 v3 x11 hf)
            · rw [if_neg c10] at hf
              refine g_iconst C dX3_fits_52 (v := 0) (by decide) ?_
              exact g_zretR C hR hf (by decide) dX3_fits_53
          rcases hp1.2 with hk | hk | hk | hk | hk
          · exact g_callU C (c_X7_alone l E a1 hp1 h7) cls_0 hp1.1 hk ku_X3_64_0 ⟨rfl, rfl, Nat.le_of_ble_eq_true rfl, Nat.le_of_ble_eq_true rfl⟩ rfl (Nat.le_of_ble_eq_true rfl) dX3_fits_39 _ rfl Kr8
          · exact g_callU C (c_X7_alone l E a1 hp1 h7) cls_2 hp1.1 hk ku_X3_64_2 ⟨rfl, rfl, Nat.le_of_ble_eq_true rfl, Nat.le_of_ble_eq_true rfl⟩ rfl (Nat.le_of_ble_eq_true rfl) dX3_fits_39 _ rfl Kr8
          · exact g_callU C (c_X7_alone l E a1 hp1 h7) cls_5 hp1.1 hk ku_X3_64_5 ⟨rfl, rfl, Nat.le_of_ble_eq_true rfl, Nat.le_of_ble_eq_true rfl⟩ rfl (Nat.le_of_ble_eq_true rfl) dX3_fits_39 _ rfl Kr8
          · exact g_callU C (c_X7_alone l E a1 hp1 h7) cls_6 hp1.1 hk ku_X3_64_6 ⟨rfl, rfl, Nat.le_of_ble_eq_true rfl, Nat.le_of_ble_eq_true rfl⟩ rfl (Nat.le_of_ble_eq_true rfl) dX3_fits_39 _ rfl Kr8
          · exact g_callU C (c_X7_alone l E a1 hp1 h7) cls_7 hp1.1 hk ku_X3_64_7 ⟨rfl, rfl, Nat.le_of_ble_eq_true rfl, Nat.le_of_ble_eq_true rfl⟩ rfl (Nat.le_of_ble_eq_true rfl) dX3_fits_39 _ rfl Kr8
set_option maxRecDepth 100000 in
set_option maxHeartbeats 4000000 in
theorem c_X3_fits (l : Launch) (E : EV) (a1 : Nat) {σ : ST} (hp1 : pv σ a1) {p1 : Int32} {p2 : Int32} {rr : Int32} (hf : f_X3_fits a1 σ p1 p2 = some rr) : CT l E yX3_fits cX3_fits 5 (some .boolean) rm_X3_fits [.ref (E.2.1 6), .ref a1, .int p1, .int p2] σ (some (.int rr)) σ := by
  refine CT.of RX3 rfl (by decide) (Nat.le_of_ble_eq_true rfl) rfl rfl (fun Γ C hR => ?_)
  show GW Γ 5 E σ 0 [(0, .ref (E.2.1 6)), (1, .ref a1), (2, .int p1), (3, .int p2)] []
  rw [f_X3_fits] at hf
  refine g_iconst C dX3_fits_0 (v := 0) (by decide) ?_
  refine g_istore C dX3_fits_1 (by decide) [(4, .int 0), (0, .ref (E.2.1 6)), (1, .ref a1), (2, .int p1), (3, .int p2)] rfl ?_
  exact g_lv [(0, .ref (E.2.1 6)), (1, .ref a1), (2, .int p1), (3, .int p2), (4, .int 0)] [1, 2, 3, 4, 0] rfl (t_X3_fits_L3 C hR hp1 fuel p1 p2 0 hf)
abbrev rm_X9_passage : Room := { frames := 3, cells := 0, slots := 0, locals := 68 }
set_option maxRecDepth 100000 in
set_option maxHeartbeats 4000000 in
theorem c_X9_passage (l : Launch) (E : EV) {σ : ST} {p0 : Int32} {p1 : Int32} {p2 : Int64} {rr : Option Nat} (hf : f_X9_passage σ p0 p1 p2 = some rr) : CT l E yX9_passage cX9_passage 6 (some (.object "KeyStreets$Street")) rm_X9_passage [.ref (E.2.1 3), .int p0, .int p1, .long p2] σ (some (va_rf rr)) σ := by
  refine CT.of RX9 rfl (by decide) (Nat.le_of_ble_eq_true rfl) rfl rfl (fun Γ C hR => ?_)
  show GW Γ 6 E σ 0 [(0, .ref (E.2.1 3)), (1, .int p0), (2, .int p1), (3, .long p2)] []
  rw [f_X9_passage] at hf
  refine g_aload_n C 0 dX9_passage_0 rfl ?_
  refine fg_X9_12_3 C dX9_passage_1 ?_
  refine g_iload_n C 1 dX9_passage_4 rfl ?_
  refine g_iload_n C 2 dX9_passage_5 rfl ?_
  obtain ⟨r2, h1, hf⟩ := o_bind hf
  refine g_callV C 4 (c_X1_from l E h1) cls_1 k_X9_33 ⟨rfl, rfl, Nat.le_of_ble_eq_true rfl, Nat.le_of_ble_eq_true rfl⟩ (by decide) rfl rfl (Nat.le_of_ble_eq_true rfl) dX9_passage_6 _ rfl ?_
  refine g_astoreq C dX9_passage_9 (by decide) [(5, va_rf r2), (0, .ref (E.2.1 3)), (1, .int p0), (2, .int p1), (3, .long p2)] rfl ?_
  refine g_aloadq C 0 dX9_passage_11 rfl ?_
  cases r2 with
  | none =>
    replace hf := o_el0 hf
    refine g_ifnullN C dX9_passage_13 (tgt := 37) (by decide) ?_
    refine g_null C dX9_passage_37 ?_
    exact g_aretR C hR hf dX9_passage_38
  | some a3 =>
    replace hf := o_el1 hf
    refine g_ifnullR C dX9_passage_13 ?_
    refine g_aload C 0 dX9_passage_16 rfl ?_
    refine g_lload_n C 4 dX9_passage_18 rfl ?_
    refine g_aload_n C 1 dX9_passage_19 rfl ?_
    refine fg_X9_21_3 C dX9_passage_20 ?_
    refine fg_X9_37_6 C dX9_passage_23 ?_
    obtain ⟨h6, hf⟩ := o_if hf
    obtain ⟨r5, h4, hf⟩ := o_bind hf
    have Kr5 : GW Γ 6 E σ 29 [(5, .ref a3), (0, .ref (E.2.1 3)), (1, .int p0), (2, .int p1), (3, .long p2)] [.int r5] := by
      refine g_if_eq (y := 0) (tgt := 37) C dX9_passage_29 (by decide) (fun c7 => ?_) (fun c7 => ?_)
      · rw [if_pos c7] at hf
        refine g_null C dX9_passage_37 ?_
        exact g_aretR C hR hf dX9_passage_38
      · rw [if_neg c7] at hf
        refine g_aload C 0 dX9_passage_32 rfl ?_
        refine g_goto (tgt := 38) C dX9_passage_34 (by decide) ?_
        exact g_aretR C hR hf dX9_passage_38
    rcases h6.2 with hk | hk | hk | hk | hk
    · exact g_callU C (c_X0_open l E a3 (show f_X0_open p2 (σ.1 6 8) = some r5 from by rw [hk] at h4; exact h4)) cls_0 h6.1 hk ku_X9_41_0 ⟨rfl, rfl, Nat.le_of_ble_eq_true rfl, Nat.le_of_ble_eq_true rfl⟩ rfl (Nat.le_of_ble_eq_true rfl) dX9_passage_26 _ rfl Kr5
    · exact g_callU C (c_X7_open l E a3 (show f_X7_open p2 (σ.1 6 8) = some r5 from by rw [hk] at h4; exact h4)) cls_2 h6.1 hk ku_X9_41_2 ⟨rfl, rfl, Nat.le_of_ble_eq_true rfl, Nat.le_of_ble_eq_true rfl⟩ rfl (Nat.le_of_ble_eq_true rfl) dX9_passage_26 _ rfl Kr5
    · exact g_callU C (c_X7_open l E a3 (show f_X7_open p2 (σ.1 6 8) = some r5 from by rw [hk] at h4; exact h4)) cls_5 h6.1 hk ku_X9_41_5 ⟨rfl, rfl, Nat.le_of_ble_eq_true rfl, Nat.le_of_ble_eq_true rfl⟩ rfl (Nat.le_of_ble_eq_true rfl) dX9_passage_26 _ rfl Kr5
    · exact g_callU C (c_X7_open l E a3 (show f_X7_open p2 (σ.1 6 8) = some r5 from by rw [hk] at h4; exact h4)) cls_6 h6.1 hk ku_X9_41_6 ⟨rfl, rfl, Nat.le_of_ble_eq_true rfl, Nat.le_of_ble_eq_true rfl⟩ rfl (Nat.le_of_ble_eq_true rfl) dX9_passage_26 _ rfl Kr5
    · exact g_callU C (c_X7_open l E a3 (show f_X7_open p2 (σ.1 6 8) = some r5 from by rw [hk] at h4; exact h4)) cls_7 h6.1 hk ku_X9_41_7 ⟨rfl, rfl, Nat.le_of_ble_eq_true rfl, Nat.le_of_ble_eq_true rfl⟩ rfl (Nat.le_of_ble_eq_true rfl) dX9_passage_26 _ rfl Kr5
abbrev rm_X9_countOpen : Room := { frames := 4, cells := 0, slots := 0, locals := 93 }
set_option maxRecDepth 100000 in
set_option maxHeartbeats 4000000 in
theorem t_X9_countOpen_L4 {Γ : CX} {l : Launch} {E : EV} {σ : ST} {rr : Int32} (C : FX Γ l cX9_countOpen 3 RX9 rm_X9_countOpen E) (hR : RT Γ (some .int) E (some (.int rr)) σ) : ∀ (n : Nat) (v1 : Int32) (v2 : Int32), f_X9_countOpen_L4 σ n v1 v2 = some rr → GW Γ 3 E σ 4 [(0, .ref (E.2.1 3)), (1, .int v1), (2, .int v2)] [] := by
  intro n
  induction n with
  | zero => intro v1 v2 hf; exact nomatch hf
  | succ n ih =>
    intro v1 v2 hf
    rw [f_X9_countOpen_L4] at hf
    refine g_iload_n C 2 dX9_countOpen_4 rfl ?_
    refine g_aload_n C 0 dX9_countOpen_5 rfl ?_
    refine fg_X9_12_3 C dX9_countOpen_6 ?_
    refine fg_X9_47_4 C dX9_countOpen_9 ?_
    refine g_icmp_ge (tgt := 46) C dX9_countOpen_12 (by decide) (fun c1 => ?_) (fun c1 => ?_)
    · rw [if_pos c1] at hf
      refine g_iload_n C 1 dX9_countOpen_46 rfl ?_
      exact g_iretR C hR hf dX9_countOpen_47
    · rw [if_neg c1] at hf
      refine g_aload_n C 0 dX9_countOpen_15 rfl ?_
      refine g_aload_n C 0 dX9_countOpen_16 rfl ?_
      refine fg_X9_21_3 C dX9_countOpen_17 ?_
      refine fg_X9_51_6 C dX9_countOpen_20 ?_
      refine g_iload_n C 2 dX9_countOpen_23 rfl ?_
      refine g_aload_n C 0 dX9_countOpen_24 rfl ?_
      refine fg_X9_21_3 C dX9_countOpen_25 ?_
      refine fg_X9_54_6 C dX9_countOpen_28 ?_
      obtain ⟨r3, h2, hf⟩ := o_bind hf
      refine g_callV C 3 (c_X9_passage l E h2) cls_8 k_X9_58 ⟨rfl, rfl, Nat.le_of_ble_eq_true rfl, Nat.le_of_ble_eq_true rfl⟩ (by decide) rfl rfl (Nat.le_of_ble_eq_true rfl) dX9_countOpen_31 _ rfl ?_
      obtain ⟨x4, ex4, hf⟩ := o_bind hf
      have Kx4 : GW Γ 3 E σ 40 [(0, .ref (E.2.1 3)), (1, .int x4), (2, .int v2)] [] := by
        obtain ⟨x7, hx7, hf⟩ := o_let hf
        refine g_iinc C 2 dX9_countOpen_40 rfl hx7 (by decide) [(2, .int x7), (0, .ref (E.2.1 3)), (1, .int x4)] rfl ?_
        refine g_goto (tgt := 4) C dX9_countOpen_43 (by decide) ?_
        exact g_lv [(0, .ref (E.2.1 3)), (1, .int x4), (2, .int x7)] [1, 2, 0] rfl (ih x4 x7 hf)
      cases r3 with
      | none =>
        replace ex4 := o_el0 ex4
        refine g_ifnullN C dX9_countOpen_34 (tgt := 40) (by decide) ?_
        rw [← Option.some.inj ex4] at Kx4
        exact g_lv [(0, .ref (E.2.1 3)), (1, .int v1), (2, .int v2)] [0, 1, 2] rfl Kx4
      | some a5 =>
        replace ex4 := o_el1 ex4
        refine g_ifnullR C dX9_countOpen_34 ?_
        obtain ⟨x6, hx6, ex4⟩ := o_let ex4
        refine g_iinc C 1 dX9_countOpen_37 rfl hx6 (by decide) [(1, .int x6), (0, .ref (E.2.1 3)), (2, .int v2)] rfl ?_
        rw [← Option.some.inj ex4] at Kx4
        exact g_lv [(0, .ref (E.2.1 3)), (1, .int x6), (2, .int v2)] [1, 0, 2] rfl Kx4
set_option maxRecDepth 100000 in
set_option maxHeartbeats 4000000 in
theorem c_X9_countOpen (l : Launch) (E : EV) {σ : ST} {rr : Int32} (hf : f_X9_countOpen σ = some rr) : CT l E yX9_countOpen cX9_countOpen 3 (some .int) rm_X9_countOpen [.ref (E.2.1 3)] σ (some (.int rr)) σ := by
  refine CT.of RX9 rfl (by decide) (Nat.le_of_ble_eq_true rfl) rfl rfl (fun Γ C hR => ?_)
  show GW Γ 3 E σ 0 [(0, .ref (E.2.1 3))] []
  rw [f_X9_countOpen] at hf
  refine g_iconst C dX9_countOpen_0 (v := 0) (by decide) ?_
  refine g_istore_n C dX9_countOpen_1 (by decide) [(1, .int 0), (0, .ref (E.2.1 3))] rfl ?_
  refine g_iconst C dX9_countOpen_2 (v := 0) (by decide) ?_
  refine g_istore_n C dX9_countOpen_3 (by decide) [(2, .int 0), (1, .int 0), (0, .ref (E.2.1 3))] rfl ?_
  exact g_lv [(0, .ref (E.2.1 3)), (1, .int 0), (2, .int 0)] [2, 1, 0] rfl (t_X9_countOpen_L4 C hR fuel 0 0 hf)
abbrev rm_X9_nearest : Room := { frames := 4, cells := 0, slots := 0, locals := 101 }
set_option maxRecDepth 100000 in
set_option maxHeartbeats 4000000 in
theorem t_X9_nearest_L7 {Γ : CX} {l : Launch} {E : EV} {σ : ST} {rr : Int32} (C : FX Γ l cX9_nearest 6 RX9 rm_X9_nearest E) (hR : RT Γ (some .int) E (some (.int rr)) σ) : ∀ (n : Nat) (v1 : Int32) (v2 : Int32) (v3 : Int32), f_X9_nearest_L7 σ n v1 v2 v3 = some rr → GW Γ 6 E σ 7 [(0, .ref (E.2.1 3)), (1, .int v1), (2, .int v2), (3, .int v3)] [] := by
  intro n
  induction n with
  | zero => intro v1 v2 v3 hf; exact nomatch hf
  | succ n ih =>
    intro v1 v2 v3 hf
    rw [f_X9_nearest_L7] at hf
    refine g_iload_n C 3 dX9_nearest_7 rfl ?_
    refine g_aload_n C 0 dX9_nearest_8 rfl ?_
    refine fg_X9_12_3 C dX9_nearest_9 ?_
    refine fg_X9_47_4 C dX9_nearest_12 ?_
    refine g_icmp_ge (tgt := 93) C dX9_nearest_15 (by decide) (fun c1 => ?_) (fun c1 => ?_)
    · rw [if_pos c1] at hf
      refine g_iload_n C 1 dX9_nearest_93 rfl ?_
      exact g_iretR C hR hf dX9_nearest_94
    · rw [if_neg c1] at hf
      refine g_aload_n C 0 dX9_nearest_18 rfl ?_
      refine g_aload_n C 0 dX9_nearest_19 rfl ?_
      refine fg_X9_21_3 C dX9_nearest_20 ?_
      refine fg_X9_51_6 C dX9_nearest_23 ?_
      refine g_iload_n C 3 dX9_nearest_26 rfl ?_
      refine g_aload_n C 0 dX9_nearest_27 rfl ?_
      refine fg_X9_21_3 C dX9_nearest_28 ?_
      refine fg_X9_54_6 C dX9_nearest_31 ?_
      obtain ⟨r3, h2, hf⟩ := o_bind hf
      refine g_callV C 3 (c_X9_passage l E h2) cls_8 k_X9_58 ⟨rfl, rfl, Nat.le_of_ble_eq_true rfl, Nat.le_of_ble_eq_true rfl⟩ (by decide) rfl rfl (Nat.le_of_ble_eq_true rfl) dX9_nearest_34 _ rfl ?_
      refine g_astoreq C dX9_nearest_37 (by decide) [(4, va_rf r3), (0, .ref (E.2.1 3)), (1, .int v1), (2, .int v2), (3, .int v3)] rfl ?_
      refine g_aloadq C 0 dX9_nearest_39 rfl ?_
      cases r3 with
      | none =>
        replace hf := o_el0 hf
        refine g_ifnullN C dX9_nearest_41 (tgt := 87) (by decide) ?_
        obtain ⟨x5, hx5, hf⟩ := o_let hf
        refine g_iinc C 4 dX9_nearest_87 rfl hx5 (by decide) [(3, .int x5), (4, .null), (0, .ref (E.2.1 3)), (1, .int v1), (2, .int v2)] rfl ?_
        refine g_goto (tgt := 7) C dX9_nearest_90 (by decide) ?_
        exact g_lv [(0, .ref (E.2.1 3)), (1, .int v1), (2, .int v2), (3, .int x5)] [2, 3, 4, 0] rfl (ih v1 v2 x5 hf)
      | some a4 =>
        replace hf := o_el1 hf
        refine g_ifnullR C dX9_nearest_41 ?_
        refine g_aload C 0 dX9_nearest_44 rfl ?_
        refine g_aload_n C 1 dX9_nearest_46 rfl ?_
        refine fg_X9_21_3 C dX9_nearest_47 ?_
        refine fg_X9_54_6 C dX9_nearest_50 ?_
        refine g_aload_n C 1 dX9_nearest_53 rfl ?_
        refine fg_X9_21_3 C dX9_nearest_54 ?_
        refine g_iload_n C 4 dX9_nearest_57 rfl ?_
        obtain ⟨r7, h6, hf⟩ := o_bind hf
        refine g_callV C 6 (c_X3_tonic l E h6) cls_3 k_X9_62 ⟨rfl, rfl, Nat.le_of_ble_eq_true rfl, Nat.le_of_ble_eq_true rfl⟩ (by decide) rfl rfl (Nat.le_of_ble_eq_true rfl) dX9_nearest_58 _ rfl ?_
        obtain ⟨h10, hf⟩ := o_if hf
        obtain ⟨r9, h8, hf⟩ := o_bind hf
        have Kr9 : GW Γ 6 E σ 64 [(4, .ref a4), (0, .ref (E.2.1 3)), (1, .int v1), (2, .int v2), (3, .int v3)] [.long r9] := by
          refine g_aload_n C 1 dX9_nearest_64 rfl ?_
          refine fg_X9_21_3 C dX9_nearest_65 ?_
          refine fg_X9_70_6 C dX9_nearest_68 ?_
          obtain ⟨r12, h11, hf⟩ := o_bind hf
          refine g_callS C (c_X8_unlike l E h11) k_X9_73 ⟨rfl, rfl, Nat.le_of_ble_eq_true rfl, Nat.le_of_ble_eq_true rfl⟩ rfl (Nat.le_of_ble_eq_true rfl) dX9_nearest_71 _ rfl ?_
          refine g_istore C dX9_nearest_74 (by decide) [(5, .int r12), (4, .ref a4), (0, .ref (E.2.1 3)), (1, .int v1), (2, .int v2), (3, .int v3)] rfl ?_
          refine g_iload C 0 dX9_nearest_76 rfl ?_
          refine g_iload_n C 4 dX9_nearest_78 rfl ?_
          refine g_icmp_ge (tgt := 87) C dX9_nearest_79 (by decide) (fun c13 => ?_) (fun c13 => ?_)
          · rw [if_pos c13] at hf
            obtain ⟨x14, hx14, hf⟩ := o_let hf
            refine g_iinc C 5 dX9_nearest_87 rfl hx14 (by decide) [(3, .int x14), (5, .int r12), (4, .ref a4), (0, .ref (E.2.1 3)), (1, .int v1), (2, .int v2)] rfl ?_
            refine g_goto (tgt := 7) C dX9_nearest_90 (by decide) ?_
            exact g_lv [(0, .ref (E.2.1 3)), (1, .int v1), (2, .int v2), (3, .int x14)] [3, 4, 5, 0] rfl (ih v1 v2 x14 hf)
          · rw [if_neg c13] at hf
            refine g_iload C 0 dX9_nearest_82 rfl ?_
            refine g_istore_n C dX9_nearest_84 (by decide) [(2, .int r12), (5, .int r12), (4, .ref a4), (0, .ref (E.2.1 3)), (1, .int v1), (3, .int v3)] rfl ?_
            refine g_iload_n C 5 dX9_nearest_85 rfl ?_
            refine g_istore_n C dX9_nearest_86 (by decide) [(1, .int v3), (2, .int r12), (5, .int r12), (4, .ref a4), (0, .ref (E.2.1 3)), (3, .int v3)] rfl ?_
            obtain ⟨x15, hx15, hf⟩ := o_let hf
            refine g_iinc C 5 dX9_nearest_87 rfl hx15 (by decide) [(3, .int x15), (1, .int v3), (2, .int r12), (5, .int r12), (4, .ref a4), (0, .ref (E.2.1 3))] rfl ?_
            refine g_goto (tgt := 7) C dX9_nearest_90 (by decide) ?_
            exact g_lv [(0, .ref (E.2.1 3)), (1, .int v3), (2, .int r12), (3, .int x15)] [5, 1, 2, 0] rfl (ih v3 r12 x15 hf)
        rcases h10.2 with hk | hk | hk | hk | hk
        · exact g_callU C (c_X7_carry l E a4 h10 h8) cls_0 h10.1 hk ku_X9_66_0 ⟨rfl, rfl, Nat.le_of_ble_eq_true rfl, Nat.le_of_ble_eq_true rfl⟩ rfl (Nat.le_of_ble_eq_true rfl) dX9_nearest_61 _ rfl Kr9
        · exact g_callU C (c_X7_carry l E a4 h10 h8) cls_2 h10.1 hk ku_X9_66_2 ⟨rfl, rfl, Nat.le_of_ble_eq_true rfl, Nat.le_of_ble_eq_true rfl⟩ rfl (Nat.le_of_ble_eq_true rfl) dX9_nearest_61 _ rfl Kr9
        · exact g_callU C (c_X7_carry l E a4 h10 h8) cls_5 h10.1 hk ku_X9_66_5 ⟨rfl, rfl, Nat.le_of_ble_eq_true rfl, Nat.le_of_ble_eq_true rfl⟩ rfl (Nat.le_of_ble_eq_true rfl) dX9_nearest_61 _ rfl Kr9
        · exact g_callU C (c_X7_carry l E a4 h10 h8) cls_6 h10.1 hk ku_X9_66_6 ⟨rfl, rfl, Nat.le_of_ble_eq_true rfl, Nat.le_of_ble_eq_true rfl⟩ rfl (Nat.le_of_ble_eq_true rfl) dX9_nearest_61 _ rfl Kr9
        · exact g_callU C (c_X7_carry l E a4 h10 h8) cls_7 h10.1 hk ku_X9_66_7 ⟨rfl, rfl, Nat.le_of_ble_eq_true rfl, Nat.le_of_ble_eq_true rfl⟩ rfl (Nat.le_of_ble_eq_true rfl) dX9_nearest_61 _ rfl Kr9
set_option maxRecDepth 100000 in
set_option maxHeartbeats 4000000 in
theorem c_X9_nearest (l : Launch) (E : EV) {σ : ST} {rr : Int32} (hf : f_X9_nearest σ = some rr) : CT l E yX9_nearest cX9_nearest 6 (some .int) rm_X9_nearest [.ref (E.2.1 3)] σ (some (.int rr)) σ := by
  refine CT.of RX9 rfl (by decide) (Nat.le_of_ble_eq_true rfl) rfl rfl (fun Γ C hR => ?_)
  show GW Γ 6 E σ 0 [(0, .ref (E.2.1 3))] []
  rw [f_X9_nearest] at hf
  refine g_iconst C dX9_nearest_0 (v := (-1)) (by decide) ?_
  refine g_istore_n C dX9_nearest_1 (by decide) [(1, .int (-1)), (0, .ref (E.2.1 3))] rfl ?_
  refine g_bipush C dX9_nearest_2 (v := 9) (by decide) ?_
  refine g_istore_n C dX9_nearest_4 (by decide) [(2, .int 9), (1, .int (-1)), (0, .ref (E.2.1 3))] rfl ?_
  refine g_iconst C dX9_nearest_5 (v := 0) (by decide) ?_
  refine g_istore_n C dX9_nearest_6 (by decide) [(3, .int 0), (2, .int 9), (1, .int (-1)), (0, .ref (E.2.1 3))] rfl ?_
  exact g_lv [(0, .ref (E.2.1 3)), (1, .int (-1)), (2, .int 9), (3, .int 0)] [3, 2, 1, 0] rfl (t_X9_nearest_L7 C hR fuel (-1) 9 0 hf)
def rm_X9_seekWay (d : Nat) : Room := { frames := 4 * (d + 1), cells := 0, slots := 0, locals := 101 * (d + 1) }
theorem fit_X9_seekWay {d n : Nat} {rm : Room} (h : FIT { frames := 4, cells := 0, slots := 0, locals := 101 } rm n) : FIT (rm_X9_seekWay d) rm n := ⟨h.1, h.2.1, Nat.le_trans h.2.2.1 (Nat.le_mul_of_pos_right _ (Nat.succ_pos _)), Nat.le_trans h.2.2.2 (Nat.le_mul_of_pos_right _ (Nat.succ_pos _))⟩
theorem fitS_X9_seekWay {d : Nat} : FIT (rm_X9_seekWay (d + 1)) (rm_X9_seekWay d) 12 := ⟨rfl, rfl, by show 4 * (d + 1) + 1 ≤ 4 * (d + 1 + 1); omega, by show 8 + (12 + 11) + 101 * (d + 1) ≤ 101 * (d + 1 + 1); omega⟩
set_option maxRecDepth 100000 in
set_option maxHeartbeats 4000000 in
theorem t_X9_seekWay_B142 {Γ : CX} {l : Launch} {E : EV} {rec : Int64 → Int32 → Int32 → Int32 → ST → Option (Int32 × ST)} {d : Nat} {rr : Int32} {ss : ST} (C : FX Γ l cX9_seekWay 12 RX9 (rm_X9_seekWay (d + 1)) E) (hR : RT Γ (some .boolean) E (some (.int rr)) ss) (hrec : ∀ (p0 : Int64) (p1 : Int32) (p2 : Int32) (p3 : Int32) (σ ss : ST) (rr : Int32), rec p0 p1 p2 p3 σ = some (rr, ss) → CT l E yX9_seekWay cX9_seekWay 12 (some .boolean) (rm_X9_seekWay d) [.ref (E.2.1 3), .long p0, .int p1, .int p2, .int p3] σ (some (.int rr)) ss) (v4 : Int32) (v6 : Int32) (v7 : Int32) (v10 : Int32) (σ : ST) (hf : f_X9_seekWay_B142 rec v4 v6 v7 v10 σ = some (rr, ss)) : GW Γ 12 E σ 142 [(0, .ref (E.2.1 3)), (4, .int v4), (6, .int v6), (7, .int v7), (10, .int v10)] [] := by
  rw [f_X9_seekWay_B142] at hf
  refine g_aload_n C 0 dX9_seekWay_142 rfl ?_
  refine fg_X9_25_3 C dX9_seekWay_143 ?_
  refine g_iload C 1 dX9_seekWay_146 rfl ?_
  refine g_iload C 3 dX9_seekWay_148 rfl ?_
  obtain ⟨h25, hf⟩ := o_if hf
  obtain ⟨σ24, hσ24, hf⟩ := o_let hf
  refine g_ast C ar_12 dX9_seekWay_150 (k := v4.toNatClampNeg) rfl h25 hσ24 ?_
  refine g_aload_n C 0 dX9_seekWay_151 rfl ?_
  refine g_iload C 2 dX9_seekWay_152 rfl ?_
  obtain ⟨x26, ex26, hf⟩ := o_let hf
  have Kx26 : GW Γ 12 E σ24 166 [] [.int x26, .ref (E.2.1 3)] := by
    obtain ⟨σ28, hσ28, hf⟩ := o_let hf
    refine fp_X9_79_3 C dX9_seekWay_166 hσ28 ?_
    refine g_iconst C dX9_seekWay_169 (v := 1) (by decide) ?_
    exact g_zretW C hR hf (by decide) dX9_seekWay_170
  refine g_if_eq (y := 0) (tgt := 162) C dX9_seekWay_154 (by decide) (fun c27 => ?_) (fun c27 => ?_)
  · rw [if_pos c27] at ex26
    refine g_aload_n C 0 dX9_seekWay_162 rfl ?_
    refine fg_X9_79_3 C dX9_seekWay_163 ?_
    rw [← ex26] at Kx26
    exact g_lv [] [] rfl Kx26
  · rw [if_neg c27] at ex26
    refine g_iload C 4 dX9_seekWay_157 rfl ?_
    refine g_goto (tgt := 166) C dX9_seekWay_159 (by decide) ?_
    rw [← ex26] at Kx26
    exact g_lv [] [] rfl Kx26
set_option maxRecDepth 100000 in
set_option maxHeartbeats 4000000 in
theorem t_X9_seekWay_B135 {Γ : CX} {l : Launch} {E : EV} {rec : Int64 → Int32 → Int32 → Int32 → ST → Option (Int32 × ST)} {d : Nat} {rr : Int32} {ss : ST} (k_43 : Int64 → Int32 → Int32 → Int32 → Int32 → Int32 → ST → Option (Int32 × ST)) (C : FX Γ l cX9_seekWay 12 RX9 (rm_X9_seekWay (d + 1)) E) (hR : RT Γ (some .boolean) E (some (.int rr)) ss) (hrec : ∀ (p0 : Int64) (p1 : Int32) (p2 : Int32) (p3 : Int32) (σ ss : ST) (rr : Int32), rec p0 p1 p2 p3 σ = some (rr, ss) → CT l E yX9_seekWay cX9_seekWay 12 (some .boolean) (rm_X9_seekWay d) [.ref (E.2.1 3), .long p0, .int p1, .int p2, .int p3] σ (some (.int rr)) ss) (hk_43 : ∀ (v1 : Int64) (v3 : Int32) (v4 : Int32) (v5 : Int32) (v6 : Int32) (v7 : Int32) (σ : ST), k_43 v1 v3 v4 v5 v6 v7 σ = some (rr, ss) → GW Γ 12 E σ 43 [(0, .ref (E.2.1 3)), (1, .long v1), (3, .int v3), (4, .int v4), (5, .int v5), (6, .int v6), (7, .int v7)] []) (v1 : Int64) (v3 : Int32) (v4 : Int32) (v5 : Int32) (v6 : Int32) (v7 : Int32) (v10 : Int32) (s0 : Int32) (σ : ST) (hf : f_X9_seekWay_B135 rec k_43 v1 v3 v4 v5 v6 v7 v10 s0 σ = some (rr, ss)) : GW Γ 12 E σ 135 [(0, .ref (E.2.1 3)), (1, .long v1), (3, .int v3), (4, .int v4), (5, .int v5), (6, .int v6), (7, .int v7), (10, .int v10)] [.int s0] := by
  rw [f_X9_seekWay_B135] at hf
  refine g_istore C dX9_seekWay_135 (by decide) [(11, .int s0), (0, .ref (E.2.1 3)), (1, .long v1), (3, .int v3), (4, .int v4), (5, .int v5), (6, .int v6), (7, .int v7), (10, .int v10)] rfl ?_
  refine g_iload C 0 dX9_seekWay_137 rfl ?_
  refine g_if_eq (y := 0) (tgt := 171) C dX9_seekWay_139 (by decide) (fun c22 => ?_) (fun c22 => ?_)
  · rw [if_pos c22] at hf
    obtain ⟨x23, hx23, hf⟩ := o_let hf
    refine g_iinc C 7 dX9_seekWay_171 rfl hx23 (by decide) [(7, .int x23), (11, .int s0), (0, .ref (E.2.1 3)), (1, .long v1), (3, .int v3), (4, .int v4), (5, .int v5), (6, .int v6), (10, .int v10)] rfl ?_
    refine g_goto (tgt := 43) C dX9_seekWay_174 (by decide) ?_
    exact g_lv [(0, .ref (E.2.1 3)), (1, .long v1), (3, .int v3), (4, .int v4), (5, .int v5), (6, .int v6), (7, .int x23)] [2, 3, 4, 5, 6, 7, 0] rfl (hk_43 v1 v3 v4 v5 v6 x23 σ hf)
  · rw [if_neg c22] at hf
    exact g_lv [(0, .ref (E.2.1 3)), (4, .int v4), (6, .int v6), (7, .int v7), (10, .int v10)] [1, 4, 6, 7, 8] rfl (t_X9_seekWay_B142 C hR hrec v4 v6 v7 v10 σ hf)
set_option maxRecDepth 100000 in
set_option maxHeartbeats 4000000 in
theorem t_X9_seekWay_L43 {Γ : CX} {l : Launch} {E : EV} {rec : Int64 → Int32 → Int32 → Int32 → ST → Option (Int32 × ST)} {d : Nat} {rr : Int32} {ss : ST} (C : FX Γ l cX9_seekWay 12 RX9 (rm_X9_seekWay (d + 1)) E) (hR : RT Γ (some .boolean) E (some (.int rr)) ss) (hrec : ∀ (p0 : Int64) (p1 : Int32) (p2 : Int32) (p3 : Int32) (σ ss : ST) (rr : Int32), rec p0 p1 p2 p3 σ = some (rr, ss) → CT l E yX9_seekWay cX9_seekWay 12 (some .boolean) (rm_X9_seekWay d) [.ref (E.2.1 3), .long p0, .int p1, .int p2, .int p3] σ (some (.int rr)) ss) : ∀ (n : Nat) (v1 : Int64) (v3 : Int32) (v4 : Int32) (v5 : Int32) (v6 : Int32) (v7 : Int32) (σ : ST), f_X9_seekWay_L43 rec n v1 v3 v4 v5 v6 v7 σ = some (rr, ss) → GW Γ 12 E σ 43 [(0, .ref (E.2.1 3)), (1, .long v1), (3, .int v3), (4, .int v4), (5, .int v5), (6, .int v6), (7, .int v7)] [] := by
  intro n
  induction n with
  | zero => intro v1 v3 v4 v5 v6 v7 σ hf; exact nomatch hf
  | succ n ih =>
    intro v1 v3 v4 v5 v6 v7 σ hf
    rw [f_X9_seekWay_L43] at hf
    refine g_iload C 6 dX9_seekWay_43 rfl ?_
    refine g_aload_n C 0 dX9_seekWay_45 rfl ?_
    refine fg_X9_12_3 C dX9_seekWay_46 ?_
    refine fg_X9_47_4 C dX9_seekWay_49 ?_
    refine g_icmp_ge (tgt := 177) C dX9_seekWay_52 (by decide) (fun c6 => ?_) (fun c6 => ?_)
    · rw [if_pos c6] at hf
      refine g_iconst C dX9_seekWay_177 (v := 0) (by decide) ?_
      exact g_zretW C hR hf (by decide) dX9_seekWay_178
    · rw [if_neg c6] at hf
      refine g_aload_n C 0 dX9_seekWay_55 rfl ?_
      refine g_iload_n C 2 dX9_seekWay_56 rfl ?_
      refine g_iload C 6 dX9_seekWay_57 rfl ?_
      refine g_lload_n C 1 dX9_seekWay_59 rfl ?_
      obtain ⟨r8, h7, hf⟩ := o_bind hf
      refine g_callV C 3 (c_X9_passage l E h7) cls_8 k_X9_58 (fit_X9_seekWay ⟨rfl, rfl, Nat.le_of_ble_eq_true rfl, Nat.le_of_ble_eq_true rfl⟩) (by decide) rfl rfl (Nat.le_of_ble_eq_true rfl) dX9_seekWay_60 _ rfl ?_
      refine g_astoreq C dX9_seekWay_63 (by decide) [(8, va_rf r8), (0, .ref (E.2.1 3)), (1, .long v1), (3, .int v3), (4, .int v4), (5, .int v5), (6, .int v6), (7, .int v7)] rfl ?_
      refine g_aloadq C 0 dX9_seekWay_65 rfl ?_
      cases r8 with
      | none =>
        replace hf := o_el0 hf
        refine g_ifnonnullN C dX9_seekWay_67 ?_
        refine g_goto (tgt := 171) C dX9_seekWay_70 (by decide) ?_
        obtain ⟨x10, hx10, hf⟩ := o_let hf
        refine g_iinc C 7 dX9_seekWay_171 rfl hx10 (by decide) [(7, .int x10), (8, .null), (0, .ref (E.2.1 3)), (1, .long v1), (3, .int v3), (4, .int v4), (5, .int v5), (6, .int v6)] rfl ?_
        refine g_goto (tgt := 43) C dX9_seekWay_174 (by decide) ?_
        exact g_lv [(0, .ref (E.2.1 3)), (1, .long v1), (3, .int v3), (4, .int v4), (5, .int v5), (6, .int v6), (7, .int x10)] [2, 3, 4, 5, 6, 7, 0] rfl (ih v1 v3 v4 v5 v6 x10 σ hf)
      | some a9 =>
        replace hf := o_el1 hf
        refine g_ifnonnullR C dX9_seekWay_67 (tgt := 73) (by decide) ?_
        refine g_aload_n C 1 dX9_seekWay_73 rfl ?_
        refine fg_X9_21_3 C dX9_seekWay_74 ?_
        refine g_iload C 7 dX9_seekWay_77 rfl ?_
        obtain ⟨r12, h11, hf⟩ := o_bind hf
        refine g_callV C 6 (c_X3_tonic l E h11) cls_3 k_X9_62 (fit_X9_seekWay ⟨rfl, rfl, Nat.le_of_ble_eq_true rfl, Nat.le_of_ble_eq_true rfl⟩) (by decide) rfl rfl (Nat.le_of_ble_eq_true rfl) dX9_seekWay_79 _ rfl ?_
        refine g_istore C dX9_seekWay_82 (by decide) [(9, .int r12), (8, .ref a9), (0, .ref (E.2.1 3)), (1, .long v1), (3, .int v3), (4, .int v4), (5, .int v5), (6, .int v6), (7, .int v7)] rfl ?_
        refine g_aload C 1 dX9_seekWay_84 rfl ?_
        refine g_iload_n C 4 dX9_seekWay_86 rfl ?_
        obtain ⟨h15, hf⟩ := o_if hf
        obtain ⟨r14, h13, hf⟩ := o_bind hf
        have Kr14 : GW Γ 12 E σ 90 [(9, .int r12), (8, .ref a9), (0, .ref (E.2.1 3)), (1, .long v1), (3, .int v3), (4, .int v4), (5, .int v5), (6, .int v6), (7, .int v7)] [.int r14] := by
          refine g_istore C dX9_seekWay_90 (by decide) [(10, .int r14), (9, .int r12), (8, .ref a9), (0, .ref (E.2.1 3)), (1, .long v1), (3, .int v3), (4, .int v4), (5, .int v5), (6, .int v6), (7, .int v7)] rfl ?_
          refine g_iload C 8 dX9_seekWay_92 rfl ?_
          refine g_if_eq (y := 0) (tgt := 115) C dX9_seekWay_94 (by decide) (fun c16 => ?_) (fun c16 => ?_)
          · rw [if_pos c16] at hf
            refine g_aload_n C 3 dX9_seekWay_115 rfl ?_
            refine g_aload C 2 dX9_seekWay_116 rfl ?_
            refine g_lload_n C 4 dX9_seekWay_118 rfl ?_
            refine g_iload C 1 dX9_seekWay_119 rfl ?_
            obtain ⟨r18, h17, hf⟩ := o_bind hf
            have Kr18 : GW Γ 12 E σ 124 [(10, .int r14), (9, .int r12), (8, .ref a9), (0, .ref (E.2.1 3)), (1, .long v1), (3, .int v3), (4, .int v4), (5, .int v5), (6, .int v6), (7, .int v7)] [.long r18, .ref (E.2.1 3)] := by
              refine g_iload C 0 dX9_seekWay_124 rfl ?_
              refine g_iload C 6 dX9_seekWay_126 rfl ?_
              refine g_iconst C dX9_seekWay_128 (v := 1) (by decide) ?_
              refine g_iadd C dX9_seekWay_129 ?_
              refine g_iload C 7 dX9_seekWay_130 rfl ?_
              obtain ⟨r21, σ20, h19, hf⟩ := o_bind2 hf
              refine g_callV C 3 (hrec _ _ _ _ _ _ _ h19) cls_8 k_X9_86 fitS_X9_seekWay (by decide) rfl rfl (Nat.le_of_ble_eq_true rfl) dX9_seekWay_132 _ rfl ?_
              exact g_lv [(0, .ref (E.2.1 3)), (1, .long v1), (3, .int v3), (4, .int v4), (5, .int v5), (6, .int v6), (7, .int v7), (10, .int r14)] [3, 4, 5, 6, 7, 8, 9, 0] rfl (t_X9_seekWay_B135 ((f_X9_seekWay_L43 rec n)) C hR hrec ih v1 v3 v4 v5 v6 v7 r14 r21 σ20 hf)
            rcases h15.2 with hk | hk | hk | hk | hk
            · exact g_callU C (c_X7_carry l E a9 h15 h17) cls_0 h15.1 hk ku_X9_66_0 (fit_X9_seekWay ⟨rfl, rfl, Nat.le_of_ble_eq_true rfl, Nat.le_of_ble_eq_true rfl⟩) rfl (Nat.le_of_ble_eq_true rfl) dX9_seekWay_121 _ rfl Kr18
            · exact g_callU C (c_X7_carry l E a9 h15 h17) cls_2 h15.1 hk ku_X9_66_2 (fit_X9_seekWay ⟨rfl, rfl, Nat.le_of_ble_eq_true rfl, Nat.le_of_ble_eq_true rfl⟩) rfl (Nat.le_of_ble_eq_true rfl) dX9_seekWay_121 _ rfl Kr18
            · exact g_callU C (c_X7_carry l E a9 h15 h17) cls_5 h15.1 hk ku_X9_66_5 (fit_X9_seekWay ⟨rfl, rfl, Nat.le_of_ble_eq_true rfl, Nat.le_of_ble_eq_true rfl⟩) rfl (Nat.le_of_ble_eq_true rfl) dX9_seekWay_121 _ rfl Kr18
            · exact g_callU C (c_X7_carry l E a9 h15 h17) cls_6 h15.1 hk ku_X9_66_6 (fit_X9_seekWay ⟨rfl, rfl, Nat.le_of_ble_eq_true rfl, Nat.le_of_ble_eq_true rfl⟩) rfl (Nat.le_of_ble_eq_true rfl) dX9_seekWay_121 _ rfl Kr18
            · exact g_callU C (c_X7_carry l E a9 h15 h17) cls_7 h15.1 hk ku_X9_66_7 (fit_X9_seekWay ⟨rfl, rfl, Nat.le_of_ble_eq_true rfl, Nat.le_of_ble_eq_true rfl⟩) rfl (Nat.le_of_ble_eq_true rfl) dX9_seekWay_121 _ rfl Kr18
          · rw [if_neg c16] at hf
            refine g_aload C 2 dX9_seekWay_97 rfl ?_
            refine g_lload_n C 4 dX9_seekWay_99 rfl ?_
            refine g_iload C 1 dX9_seekWay_100 rfl ?_
            refine g_aload_n C 3 dX9_seekWay_102 rfl ?_
            refine fg_X9_21_3 C dX9_seekWay_103 ?_
            refine fg_X9_70_6 C dX9_seekWay_106 ?_
            obtain ⟨r30, h29, hf⟩ := o_bind hf
            have Kr30 : GW Γ 12 E σ 112 [(10, .int r14), (9, .int r12), (8, .ref a9), (0, .ref (E.2.1 3)), (1, .long v1), (3, .int v3), (4, .int v4), (5, .int v5), (6, .int v6), (7, .int v7)] [.int r30] := by
              refine g_goto (tgt := 135) C dX9_seekWay_112 (by decide) ?_
              exact g_lv [(0, .ref (E.2.1 3)), (1, .long v1), (3, .int v3), (4, .int v4), (5, .int v5), (6, .int v6), (7, .int v7), (10, .int r14)] [3, 4, 5, 6, 7, 8, 9, 0] rfl (t_X9_seekWay_B135 ((f_X9_seekWay_L43 rec n)) C hR hrec ih v1 v3 v4 v5 v6 v7 r14 r30 σ hf)
            rcases h15.2 with hk | hk | hk | hk | hk
            · exact g_callU C (c_X7_makes l E a9 h15 h29) cls_0 h15.1 hk ku_X9_93_0 (fit_X9_seekWay ⟨rfl, rfl, Nat.le_of_ble_eq_true rfl, Nat.le_of_ble_eq_true rfl⟩) rfl (Nat.le_of_ble_eq_true rfl) dX9_seekWay_109 _ rfl Kr30
            · exact g_callU C (c_X7_makes l E a9 h15 h29) cls_2 h15.1 hk ku_X9_93_2 (fit_X9_seekWay ⟨rfl, rfl, Nat.le_of_ble_eq_true rfl, Nat.le_of_ble_eq_true rfl⟩) rfl (Nat.le_of_ble_eq_true rfl) dX9_seekWay_109 _ rfl Kr30
            · exact g_callU C (c_X7_makes l E a9 h15 h29) cls_5 h15.1 hk ku_X9_93_5 (fit_X9_seekWay ⟨rfl, rfl, Nat.le_of_ble_eq_true rfl, Nat.le_of_ble_eq_true rfl⟩) rfl (Nat.le_of_ble_eq_true rfl) dX9_seekWay_109 _ rfl Kr30
            · exact g_callU C (c_X7_makes l E a9 h15 h29) cls_6 h15.1 hk ku_X9_93_6 (fit_X9_seekWay ⟨rfl, rfl, Nat.le_of_ble_eq_true rfl, Nat.le_of_ble_eq_true rfl⟩) rfl (Nat.le_of_ble_eq_true rfl) dX9_seekWay_109 _ rfl Kr30
            · exact g_callU C (c_X7_makes l E a9 h15 h29) cls_7 h15.1 hk ku_X9_93_7 (fit_X9_seekWay ⟨rfl, rfl, Nat.le_of_ble_eq_true rfl, Nat.le_of_ble_eq_true rfl⟩) rfl (Nat.le_of_ble_eq_true rfl) dX9_seekWay_109 _ rfl Kr30
        rcases h15.2 with hk | hk | hk | hk | hk
        · exact g_callU C (c_X7_across l E a9 h15 h13) cls_0 h15.1 hk ku_X9_90_0 (fit_X9_seekWay ⟨rfl, rfl, Nat.le_of_ble_eq_true rfl, Nat.le_of_ble_eq_true rfl⟩) rfl (Nat.le_of_ble_eq_true rfl) dX9_seekWay_87 _ rfl Kr14
        · exact g_callU C (c_X7_across l E a9 h15 h13) cls_2 h15.1 hk ku_X9_90_2 (fit_X9_seekWay ⟨rfl, rfl, Nat.le_of_ble_eq_true rfl, Nat.le_of_ble_eq_true rfl⟩) rfl (Nat.le_of_ble_eq_true rfl) dX9_seekWay_87 _ rfl Kr14
        · exact g_callU C (c_X7_across l E a9 h15 h13) cls_5 h15.1 hk ku_X9_90_5 (fit_X9_seekWay ⟨rfl, rfl, Nat.le_of_ble_eq_true rfl, Nat.le_of_ble_eq_true rfl⟩) rfl (Nat.le_of_ble_eq_true rfl) dX9_seekWay_87 _ rfl Kr14
        · exact g_callU C (c_X7_across l E a9 h15 h13) cls_6 h15.1 hk ku_X9_90_6 (fit_X9_seekWay ⟨rfl, rfl, Nat.le_of_ble_eq_true rfl, Nat.le_of_ble_eq_true rfl⟩) rfl (Nat.le_of_ble_eq_true rfl) dX9_seekWay_87 _ rfl Kr14
        · exact g_callU C (c_X7_across l E a9 h15 h13) cls_7 h15.1 hk ku_X9_90_7 (fit_X9_seekWay ⟨rfl, rfl, Nat.le_of_ble_eq_true rfl, Nat.le_of_ble_eq_true rfl⟩) rfl (Nat.le_of_ble_eq_true rfl) dX9_seekWay_87 _ rfl Kr14
set_option maxRecDepth 100000 in
set_option maxHeartbeats 4000000 in
theorem t_X9_seekWay_B38 {Γ : CX} {l : Launch} {E : EV} {rec : Int64 → Int32 → Int32 → Int32 → ST → Option (Int32 × ST)} {d : Nat} {rr : Int32} {ss : ST} (C : FX Γ l cX9_seekWay 12 RX9 (rm_X9_seekWay (d + 1)) E) (hR : RT Γ (some .boolean) E (some (.int rr)) ss) (hrec : ∀ (p0 : Int64) (p1 : Int32) (p2 : Int32) (p3 : Int32) (σ ss : ST) (rr : Int32), rec p0 p1 p2 p3 σ = some (rr, ss) → CT l E yX9_seekWay cX9_seekWay 12 (some .boolean) (rm_X9_seekWay d) [.ref (E.2.1 3), .long p0, .int p1, .int p2, .int p3] σ (some (.int rr)) ss) (v1 : Int64) (v3 : Int32) (v4 : Int32) (v5 : Int32) (s0 : Int32) (σ : ST) (hf : f_X9_seekWay_B38 rec v1 v3 v4 v5 s0 σ = some (rr, ss)) : GW Γ 12 E σ 38 [(0, .ref (E.2.1 3)), (1, .long v1), (3, .int v3), (4, .int v4), (5, .int v5)] [.int s0] := by
  rw [f_X9_seekWay_B38] at hf
  refine g_istore C dX9_seekWay_38 (by decide) [(6, .int s0), (0, .ref (E.2.1 3)), (1, .long v1), (3, .int v3), (4, .int v4), (5, .int v5)] rfl ?_
  refine g_iconst C dX9_seekWay_40 (v := 0) (by decide) ?_
  refine g_istore C dX9_seekWay_41 (by decide) [(7, .int 0), (6, .int s0), (0, .ref (E.2.1 3)), (1, .long v1), (3, .int v3), (4, .int v4), (5, .int v5)] rfl ?_
  exact g_lv [(0, .ref (E.2.1 3)), (1, .long v1), (3, .int v3), (4, .int v4), (5, .int v5), (6, .int s0), (7, .int 0)] [2, 3, 4, 5, 6, 1, 0] rfl (t_X9_seekWay_L43 C hR hrec fuel v1 v3 v4 v5 s0 0 σ hf)
set_option maxRecDepth 100000 in
set_option maxHeartbeats 4000000 in
theorem c_X9_seekWay (l : Launch) (E : EV) : ∀ (d : Nat) (p0 : Int64) (p1 : Int32) (p2 : Int32) (p3 : Int32) (σ ss : ST) (rr : Int32), f_X9_seekWay d p0 p1 p2 p3 σ = some (rr, ss) → CT l E yX9_seekWay cX9_seekWay 12 (some .boolean) (rm_X9_seekWay d) [.ref (E.2.1 3), .long p0, .int p1, .int p2, .int p3] σ (some (.int rr)) ss := by
  intro d
  induction d with
  | zero => intro p0 p1 p2 p3 σ ss rr hf; exact nomatch hf
  | succ d hrec =>
    intro p0 p1 p2 p3 σ ss rr hf
    refine CT.of RX9 rfl (by decide) (Nat.le_of_ble_eq_true rfl) rfl rfl (fun Γ C hR => ?_)
    show GW Γ 12 E σ 0 [(0, .ref (E.2.1 3)), (1, .long p0), (3, .int p1), (4, .int p2), (5, .int p3)] []
    rw [f_X9_seekWay] at hf
    refine g_iload C 3 dX9_seekWay_0 rfl ?_
    refine g_if_lt (y := 0) (tgt := 22) C dX9_seekWay_2 (by decide) (fun c1 => ?_) (fun c1 => ?_)
    · rw [if_pos c1] at hf
      refine g_iconst C dX9_seekWay_22 (v := 0) (by decide) ?_
      exact g_zretW C hR hf (by decide) dX9_seekWay_23
    · rw [if_neg c1] at hf
      refine g_iload C 3 dX9_seekWay_5 rfl ?_
      refine g_iload C 4 dX9_seekWay_7 rfl ?_
      refine g_icmp_ge (tgt := 22) C dX9_seekWay_9 (by decide) (fun c2 => ?_) (fun c2 => ?_)
      · rw [if_pos c2] at hf
        refine g_iconst C dX9_seekWay_22 (v := 0) (by decide) ?_
        exact g_zretW C hR hf (by decide) dX9_seekWay_23
      · rw [if_neg c2] at hf
        refine g_iload C 3 dX9_seekWay_12 rfl ?_
        refine g_aload_n C 0 dX9_seekWay_14 rfl ?_
        refine fg_X9_25_3 C dX9_seekWay_15 ?_
        refine g_alenA C ar_12 dX9_seekWay_18 (v := 5) (by decide) ?_
        refine g_icmp_lt (tgt := 24) C dX9_seekWay_19 (by decide) (fun c3 => ?_) (fun c3 => ?_)
        · rw [if_pos c3] at hf
          refine g_iload C 3 dX9_seekWay_24 rfl ?_
          refine g_iload C 4 dX9_seekWay_26 rfl ?_
          refine g_iconst C dX9_seekWay_28 (v := 1) (by decide) ?_
          refine g_isub C dX9_seekWay_29 ?_
          obtain ⟨x4, ex4, hf⟩ := o_let hf
          have Kx4 : GW Γ 12 E σ 38 [(0, .ref (E.2.1 3)), (1, .long p0), (3, .int p1), (4, .int p2), (5, .int p3)] [.int x4] := by
            exact t_X9_seekWay_B38 C hR hrec p0 p1 p2 p3 x4 σ hf
          refine g_icmp_ne (tgt := 37) C dX9_seekWay_30 (by decide) (fun c5 => ?_) (fun c5 => ?_)
          · rw [if_neg c5] at ex4
            refine g_iconst C dX9_seekWay_37 (v := 0) (by decide) ?_
            rw [← ex4] at Kx4
            exact g_lv [(0, .ref (E.2.1 3)), (1, .long p0), (3, .int p1), (4, .int p2), (5, .int p3)] [0, 1, 2, 3, 4] rfl Kx4
          · rw [if_pos c5] at ex4
            refine g_iconst C dX9_seekWay_33 (v := 1) (by decide) ?_
            refine g_goto (tgt := 38) C dX9_seekWay_34 (by decide) ?_
            rw [← ex4] at Kx4
            exact g_lv [(0, .ref (E.2.1 3)), (1, .long p0), (3, .int p1), (4, .int p2), (5, .int p3)] [0, 1, 2, 3, 4] rfl Kx4
        · rw [if_neg c3] at hf
          refine g_iconst C dX9_seekWay_22 (v := 0) (by decide) ?_
          exact g_zretW C hR hf (by decide) dX9_seekWay_23
abbrev rm_X9_findWay : Room := { frames := 37, cells := 0, slots := 0, locals := 940 }
set_option maxRecDepth 100000 in
set_option maxHeartbeats 4000000 in
theorem t_X9_findWay_L58 {Γ : CX} {l : Launch} {E : EV} {rr : Int32} {ss : ST} (C : FX Γ l cX9_findWay 2 RX9 rm_X9_findWay E) (hR : RT Γ (some .int) E (some (.int rr)) ss) : ∀ (n : Nat) (v1 : Int32) (σ : ST), f_X9_findWay_L58 n v1 σ = some (rr, ss) → GW Γ 2 E σ 58 [(0, .ref (E.2.1 3)), (1, .int v1)] [] := by
  intro n
  induction n with
  | zero => intro v1 σ hf; exact nomatch hf
  | succ n ih =>
    intro v1 σ hf
    rw [f_X9_findWay_L58] at hf
    refine g_iload_n C 1 dX9_findWay_58 rfl ?_
    refine g_iconst C dX9_findWay_59 (v := 5) (by decide) ?_
    refine g_icmp_gt (tgt := 94) C dX9_findWay_60 (by decide) (fun c7 => ?_) (fun c7 => ?_)
    · rw [if_pos c7] at hf
      refine g_iconst C dX9_findWay_94 (v := (-1)) (by decide) ?_
      exact g_iretW C hR hf dX9_findWay_95
    · rw [if_neg c7] at hf
      refine g_aload_n C 0 dX9_findWay_63 rfl ?_
      refine g_aload_n C 0 dX9_findWay_64 rfl ?_
      refine fg_X9_21_3 C dX9_findWay_65 ?_
      refine fg_X9_54_6 C dX9_findWay_68 ?_
      refine g_aload_n C 0 dX9_findWay_71 rfl ?_
      refine fg_X9_21_3 C dX9_findWay_72 ?_
      refine fg_X9_51_6 C dX9_findWay_75 ?_
      refine g_iconst C dX9_findWay_78 (v := 0) (by decide) ?_
      refine g_iload_n C 1 dX9_findWay_79 rfl ?_
      obtain ⟨r10, σ9, h8, hf⟩ := o_bind2 hf
      refine g_callV C 3 (c_X9_seekWay l E 8 _ _ _ _ _ _ _ h8) cls_8 k_X9_86 ⟨rfl, rfl, Nat.le_of_ble_eq_true rfl, Nat.le_of_ble_eq_true rfl⟩ (by decide) rfl rfl (Nat.le_of_ble_eq_true rfl) dX9_findWay_80 _ rfl ?_
      refine g_if_eq (y := 0) (tgt := 88) C dX9_findWay_83 (by decide) (fun c11 => ?_) (fun c11 => ?_)
      · rw [if_pos c11] at hf
        obtain ⟨x12, hx12, hf⟩ := o_let hf
        refine g_iinc C 1 dX9_findWay_88 rfl hx12 (by decide) [(1, .int x12), (0, .ref (E.2.1 3))] rfl ?_
        refine g_goto (tgt := 58) C dX9_findWay_91 (by decide) ?_
        exact g_lv [(0, .ref (E.2.1 3)), (1, .int x12)] [1, 0] rfl (ih x12 σ9 hf)
      · rw [if_neg c11] at hf
        refine g_iload_n C 1 dX9_findWay_86 rfl ?_
        exact g_iretW C hR hf dX9_findWay_87
set_option maxRecDepth 100000 in
set_option maxHeartbeats 4000000 in
theorem c_X9_findWay (l : Launch) (E : EV) {σ ss : ST} {rr : Int32} (hf : f_X9_findWay σ = some (rr, ss)) : CT l E yX9_findWay cX9_findWay 2 (some .int) rm_X9_findWay [.ref (E.2.1 3)] σ (some (.int rr)) ss := by
  refine CT.of RX9 rfl (by decide) (Nat.le_of_ble_eq_true rfl) rfl rfl (fun Γ C hR => ?_)
  show GW Γ 2 E σ 0 [(0, .ref (E.2.1 3))] []
  rw [f_X9_findWay] at hf
  refine g_aload_n C 0 dX9_findWay_0 rfl ?_
  refine fg_X9_21_3 C dX9_findWay_1 ?_
  refine fg_X9_54_6 C dX9_findWay_4 ?_
  refine g_aload_n C 0 dX9_findWay_7 rfl ?_
  refine fg_X9_21_3 C dX9_findWay_8 ?_
  refine fg_X9_70_6 C dX9_findWay_11 ?_
  refine g_lcmp_ne (tgt := 31) C dX9_findWay_14 dX9_findWay_15 (by decide) (fun c1 => ?_) (fun c1 => ?_)
  · rw [if_neg c1] at hf
    refine g_aload_n C 0 dX9_findWay_31 rfl ?_
    refine fg_X9_21_3 C dX9_findWay_32 ?_
    refine fg_X9_54_6 C dX9_findWay_35 ?_
    obtain ⟨r3, h2, hf⟩ := o_bind hf
    refine g_callS C (c_X8_length l E h2) k_X9_82 ⟨rfl, rfl, Nat.le_of_ble_eq_true rfl, Nat.le_of_ble_eq_true rfl⟩ rfl (Nat.le_of_ble_eq_true rfl) dX9_findWay_38 _ rfl ?_
    refine g_aload_n C 0 dX9_findWay_41 rfl ?_
    refine fg_X9_21_3 C dX9_findWay_42 ?_
    refine fg_X9_70_6 C dX9_findWay_45 ?_
    obtain ⟨r5, h4, hf⟩ := o_bind hf
    refine g_callS C (c_X8_length l E h4) k_X9_82 ⟨rfl, rfl, Nat.le_of_ble_eq_true rfl, Nat.le_of_ble_eq_true rfl⟩ rfl (Nat.le_of_ble_eq_true rfl) dX9_findWay_48 _ rfl ?_
    refine g_icmp_eq (tgt := 56) C dX9_findWay_51 (by decide) (fun c6 => ?_) (fun c6 => ?_)
    · rw [if_pos c6] at hf
      refine g_iconst C dX9_findWay_56 (v := 1) (by decide) ?_
      refine g_istore_n C dX9_findWay_57 (by decide) [(1, .int 1), (0, .ref (E.2.1 3))] rfl ?_
      exact g_lv [(0, .ref (E.2.1 3)), (1, .int 1)] [1, 0] rfl (t_X9_findWay_L58 C hR fuel 1 σ hf)
    · rw [if_neg c6] at hf
      refine g_iconst C dX9_findWay_54 (v := (-1)) (by decide) ?_
      exact g_iretW C hR hf dX9_findWay_55
  · rw [if_pos c1] at hf
    refine g_aload_n C 0 dX9_findWay_18 rfl ?_
    refine g_aload_n C 0 dX9_findWay_19 rfl ?_
    refine fg_X9_21_3 C dX9_findWay_20 ?_
    refine fg_X9_51_6 C dX9_findWay_23 ?_
    obtain ⟨σ13, hσ13, hf⟩ := o_let hf
    refine fp_X9_79_3 C dX9_findWay_26 hσ13 ?_
    refine g_iconst C dX9_findWay_29 (v := 0) (by decide) ?_
    exact g_iretW C hR hf dX9_findWay_30
abbrev rm_X9_wayStreet : Room := { frames := 0, cells := 0, slots := 0, locals := 0 }
set_option maxRecDepth 100000 in
set_option maxHeartbeats 4000000 in
theorem c_X9_wayStreet (l : Launch) (E : EV) {σ : ST} {p0 : Int32} {p1 : Int32} {rr : Int32} (hf : f_X9_wayStreet σ p0 p1 = some rr) : CT l E yX9_wayStreet cX9_wayStreet 3 (some .int) rm_X9_wayStreet [.ref (E.2.1 3), .int p0, .int p1] σ (some (.int rr)) σ := by
  refine CT.of RX9 rfl (by decide) (Nat.le_of_ble_eq_true rfl) rfl rfl (fun Γ C hR => ?_)
  show GW Γ 3 E σ 0 [(0, .ref (E.2.1 3)), (1, .int p0), (2, .int p1)] []
  rw [f_X9_wayStreet] at hf
  refine g_iload_n C 1 dX9_wayStreet_0 rfl ?_
  refine g_if_lt (y := 0) (tgt := 27) C dX9_wayStreet_1 (by decide) (fun c1 => ?_) (fun c1 => ?_)
  · rw [if_pos c1] at hf
    refine g_iconst C dX9_wayStreet_27 (v := (-1)) (by decide) ?_
    exact g_iretR C hR hf dX9_wayStreet_28
  · rw [if_neg c1] at hf
    refine g_iload_n C 1 dX9_wayStreet_4 rfl ?_
    refine g_iload_n C 2 dX9_wayStreet_5 rfl ?_
    refine g_icmp_ge (tgt := 27) C dX9_wayStreet_6 (by decide) (fun c2 => ?_) (fun c2 => ?_)
    · rw [if_pos c2] at hf
      refine g_iconst C dX9_wayStreet_27 (v := (-1)) (by decide) ?_
      exact g_iretR C hR hf dX9_wayStreet_28
    · rw [if_neg c2] at hf
      refine g_iload_n C 1 dX9_wayStreet_9 rfl ?_
      refine g_aload_n C 0 dX9_wayStreet_10 rfl ?_
      refine fg_X9_25_3 C dX9_wayStreet_11 ?_
      refine g_alenA C ar_12 dX9_wayStreet_14 (v := 5) (by decide) ?_
      refine g_icmp_ge (tgt := 27) C dX9_wayStreet_15 (by decide) (fun c3 => ?_) (fun c3 => ?_)
      · rw [if_pos c3] at hf
        refine g_iconst C dX9_wayStreet_27 (v := (-1)) (by decide) ?_
        exact g_iretR C hR hf dX9_wayStreet_28
      · rw [if_neg c3] at hf
        refine g_aload_n C 0 dX9_wayStreet_18 rfl ?_
        refine fg_X9_25_3 C dX9_wayStreet_19 ?_
        refine g_iload_n C 1 dX9_wayStreet_22 rfl ?_
        obtain ⟨h4, hf⟩ := o_if hf
        refine g_ald C ar_12 dX9_wayStreet_23 (k := p0.toNatClampNeg) rfl h4 ?_
        refine g_goto (tgt := 28) C dX9_wayStreet_24 (by decide) ?_
        exact g_iretR C hR hf dX9_wayStreet_28
abbrev rm_X9_meet : Room := { frames := 0, cells := 0, slots := 0, locals := 0 }
set_option maxRecDepth 100000 in
set_option maxHeartbeats 4000000 in
theorem t_X9_meet_B56 {Γ : CX} {l : Launch} {E : EV} {ss : ST} (C : FX Γ l cX9_meet 5 RX9 rm_X9_meet E) (hR : RT Γ none E none ss) (v1 : Int64) (v3 : Int32) (σ : ST) (hf : f_X9_meet_B56 v1 v3 σ = some ss) : GW Γ 5 E σ 56 [(0, .ref (E.2.1 3)), (1, .long v1), (3, .int v3)] [] := by
  rw [f_X9_meet_B56] at hf
  refine g_aload_n C 0 dX9_meet_56 rfl ?_
  refine fg_X9_29_3 C dX9_meet_57 ?_
  refine g_iload_n C 2 dX9_meet_60 rfl ?_
  refine g_lload_n C 1 dX9_meet_61 rfl ?_
  obtain ⟨h13, hf⟩ := o_if hf
  obtain ⟨σ12, hσ12, hf⟩ := o_let hf
  refine g_last C σ12 dX9_meet_62 h13 hσ12.symm ?_
  refine g_aload_n C 0 dX9_meet_63 rfl ?_
  refine g_dup C dX9_meet_64 rfl ?_
  refine fg_X9_97_3 C dX9_meet_65 ?_
  refine g_iconst C dX9_meet_68 (v := 1) (by decide) ?_
  refine g_iadd C dX9_meet_69 ?_
  obtain ⟨σ14, hσ14, hf⟩ := o_let hf
  refine fp_X9_97_3 C dX9_meet_70 hσ14 ?_
  exact g_vretW C hR hf dX9_meet_73
set_option maxRecDepth 100000 in
set_option maxHeartbeats 4000000 in
theorem t_X9_meet_B33 {Γ : CX} {l : Launch} {E : EV} {ss : ST} (k_10 : Int64 → Int32 → Int32 → ST → Option (ST)) (C : FX Γ l cX9_meet 5 RX9 rm_X9_meet E) (hR : RT Γ none E none ss) (hk_10 : ∀ (v1 : Int64) (v3 : Int32) (v4 : Int32) (σ : ST), k_10 v1 v3 v4 σ = some ss → GW Γ 5 E σ 10 [(0, .ref (E.2.1 3)), (1, .long v1), (3, .int v3), (4, .int v4)] []) (v1 : Int64) (v3 : Int32) (v4 : Int32) (σ : ST) (hf : f_X9_meet_B33 k_10 v1 v3 v4 σ = some ss) : GW Γ 5 E σ 33 [(0, .ref (E.2.1 3)), (1, .long v1), (3, .int v3), (4, .int v4)] [] := by
  rw [f_X9_meet_B33] at hf
  refine g_aload_n C 0 dX9_meet_33 rfl ?_
  refine fg_X9_29_3 C dX9_meet_34 ?_
  refine g_iload_n C 2 dX9_meet_37 rfl ?_
  obtain ⟨h6, hf⟩ := o_if hf
  refine g_lald C dX9_meet_38 h6 ?_
  refine g_lload_n C 1 dX9_meet_39 rfl ?_
  refine g_lcmp_ne (tgt := 45) C dX9_meet_40 dX9_meet_41 (by decide) (fun c7 => ?_) (fun c7 => ?_)
  · rw [if_neg c7] at hf
    refine g_aload_n C 0 dX9_meet_45 rfl ?_
    refine fg_X9_29_3 C dX9_meet_46 ?_
    refine g_iload_n C 2 dX9_meet_49 rfl ?_
    obtain ⟨h8, hf⟩ := o_if hf
    refine g_lald C dX9_meet_50 h8 ?_
    refine g_lconst C dX9_meet_51 (v := 0) (by decide) ?_
    refine g_lcmp_ne (tgt := 74) C dX9_meet_52 dX9_meet_53 (by decide) (fun c9 => ?_) (fun c9 => ?_)
    · rw [if_neg c9] at hf
      obtain ⟨x10, hx10, hf⟩ := o_let hf
      refine g_iinc C 2 dX9_meet_74 rfl hx10 (by decide) [(3, .int x10), (0, .ref (E.2.1 3)), (1, .long v1), (4, .int v4)] rfl ?_
      obtain ⟨x11, hx11, hf⟩ := o_let hf
      refine g_iinc C 3 dX9_meet_77 rfl hx11 (by decide) [(4, .int x11), (3, .int x10), (0, .ref (E.2.1 3)), (1, .long v1)] rfl ?_
      refine g_goto (tgt := 10) C dX9_meet_80 (by decide) ?_
      exact g_lv [(0, .ref (E.2.1 3)), (1, .long v1), (3, .int x10), (4, .int x11)] [2, 3, 1, 0] rfl (hk_10 v1 x10 x11 σ hf)
    · rw [if_pos c9] at hf
      exact g_lv [(0, .ref (E.2.1 3)), (1, .long v1), (3, .int v3)] [0, 1, 2] rfl (t_X9_meet_B56 C hR v1 v3 σ hf)
  · rw [if_pos c7] at hf
    exact g_vretW C hR hf dX9_meet_44
set_option maxRecDepth 100000 in
set_option maxHeartbeats 4000000 in
theorem t_X9_meet_L10 {Γ : CX} {l : Launch} {E : EV} {ss : ST} (C : FX Γ l cX9_meet 5 RX9 rm_X9_meet E) (hR : RT Γ none E none ss) : ∀ (n : Nat) (v1 : Int64) (v3 : Int32) (v4 : Int32) (σ : ST), f_X9_meet_L10 n v1 v3 v4 σ = some ss → GW Γ 5 E σ 10 [(0, .ref (E.2.1 3)), (1, .long v1), (3, .int v3), (4, .int v4)] [] := by
  intro n
  induction n with
  | zero => intro v1 v3 v4 σ hf; exact nomatch hf
  | succ n ih =>
    intro v1 v3 v4 σ hf
    rw [f_X9_meet_L10] at hf
    refine g_iload C 3 dX9_meet_10 rfl ?_
    refine g_sipush C dX9_meet_12 (v := 1024) (by decide) ?_
    refine g_icmp_ge (tgt := 83) C dX9_meet_15 (by decide) (fun c2 => ?_) (fun c2 => ?_)
    · rw [if_pos c2] at hf
      exact g_vretW C hR hf dX9_meet_83
    · rw [if_neg c2] at hf
      refine g_iload_n C 2 dX9_meet_18 rfl ?_
      obtain ⟨x3, ex3, hf⟩ := o_let hf
      have Kx3 : GW Γ 5 E σ 33 [(0, .ref (E.2.1 3)), (1, .long v1), (3, .int x3), (4, .int v4)] [] := by
        exact t_X9_meet_B33 ((f_X9_meet_L10 n)) C hR ih v1 x3 v4 σ hf
      refine g_if_lt (y := 0) (tgt := 31) C dX9_meet_19 (by decide) (fun c4 => ?_) (fun c4 => ?_)
      · rw [if_pos c4] at ex3
        refine g_iconst C dX9_meet_31 (v := 0) (by decide) ?_
        refine g_istore_n C dX9_meet_32 (by decide) [(3, .int 0), (0, .ref (E.2.1 3)), (1, .long v1), (4, .int v4)] rfl ?_
        rw [← ex3] at Kx3
        exact g_lv [(0, .ref (E.2.1 3)), (1, .long v1), (3, .int 0), (4, .int v4)] [1, 2, 0, 3] rfl Kx3
      · rw [if_neg c4] at ex3
        refine g_iload_n C 2 dX9_meet_22 rfl ?_
        refine g_aload_n C 0 dX9_meet_23 rfl ?_
        refine fg_X9_29_3 C dX9_meet_24 ?_
        refine g_alen C 13 1 dX9_meet_27 (by decide) rfl rfl (v := 1024) rfl ?_
        refine g_icmp_lt (tgt := 33) C dX9_meet_28 (by decide) (fun c5 => ?_) (fun c5 => ?_)
        · rw [if_pos c5] at ex3
          rw [← ex3] at Kx3
          exact g_lv [(0, .ref (E.2.1 3)), (1, .long v1), (3, .int v3), (4, .int v4)] [0, 1, 2, 3] rfl Kx3
        · rw [if_neg c5] at ex3
          refine g_iconst C dX9_meet_31 (v := 0) (by decide) ?_
          refine g_istore_n C dX9_meet_32 (by decide) [(3, .int 0), (0, .ref (E.2.1 3)), (1, .long v1), (4, .int v4)] rfl ?_
          rw [← ex3] at Kx3
          exact g_lv [(0, .ref (E.2.1 3)), (1, .long v1), (3, .int 0), (4, .int v4)] [1, 2, 0, 3] rfl Kx3
set_option maxRecDepth 100000 in
set_option maxHeartbeats 4000000 in
theorem c_X9_meet (l : Launch) (E : EV) {σ ss : ST} {p0 : Int64} (hf : f_X9_meet p0 σ = some ss) : CT l E yX9_meet cX9_meet 5 none rm_X9_meet [.ref (E.2.1 3), .long p0] σ none ss := by
  refine CT.of RX9 rfl (by decide) (Nat.le_of_ble_eq_true rfl) rfl rfl (fun Γ C hR => ?_)
  show GW Γ 5 E σ 0 [(0, .ref (E.2.1 3)), (1, .long p0)] []
  rw [f_X9_meet] at hf
  refine g_lload_n C 1 dX9_meet_0 rfl ?_
  refine g_ldc2 C dX9_meet_1 (v := 1021) kl_X9_114 ?_
  refine g_lrem C dX9_meet_4 (by decide) ?_
  refine g_l2i C dX9_meet_5 ?_
  obtain ⟨x1, hx1, hf⟩ := o_let hf
  refine g_topi hx1 ?_
  refine g_istore_n C dX9_meet_6 (by decide) [(3, .int x1), (0, .ref (E.2.1 3)), (1, .long p0)] rfl ?_
  refine g_iconst C dX9_meet_7 (v := 0) (by decide) ?_
  refine g_istore C dX9_meet_8 (by decide) [(4, .int 0), (3, .int x1), (0, .ref (E.2.1 3)), (1, .long p0)] rfl ?_
  exact g_lv [(0, .ref (E.2.1 3)), (1, .long p0), (3, .int x1), (4, .int 0)] [2, 3, 1, 0] rfl (t_X9_meet_L10 C hR fuel p0 x1 0 σ hf)
def rm_X9_meetTunes (d : Nat) : Room := { frames := 4 * (d + 1), cells := 0, slots := 0, locals := 101 * (d + 1) }
theorem fit_X9_meetTunes {d n : Nat} {rm : Room} (h : FIT { frames := 4, cells := 0, slots := 0, locals := 101 } rm n) : FIT (rm_X9_meetTunes d) rm n := ⟨h.1, h.2.1, Nat.le_trans h.2.2.1 (Nat.le_mul_of_pos_right _ (Nat.succ_pos _)), Nat.le_trans h.2.2.2 (Nat.le_mul_of_pos_right _ (Nat.succ_pos _))⟩
theorem fitS_X9_meetTunes {d : Nat} : FIT (rm_X9_meetTunes (d + 1)) (rm_X9_meetTunes d) 7 := ⟨rfl, rfl, by show 4 * (d + 1) + 1 ≤ 4 * (d + 1 + 1); omega, by show 8 + (7 + 11) + 101 * (d + 1) ≤ 101 * (d + 1 + 1); omega⟩
set_option maxRecDepth 100000 in
set_option maxHeartbeats 4000000 in
theorem t_X9_meetTunes_L14 {Γ : CX} {l : Launch} {E : EV} {rec : Int64 → Int32 → Int32 → ST → Option (ST)} {d : Nat} {ss : ST} (C : FX Γ l cX9_meetTunes 7 RX9 (rm_X9_meetTunes (d + 1)) E) (hR : RT Γ none E none ss) (hrec : ∀ (p0 : Int64) (p1 : Int32) (p2 : Int32) (σ ss : ST), rec p0 p1 p2 σ = some ss → CT l E yX9_meetTunes cX9_meetTunes 7 none (rm_X9_meetTunes d) [.ref (E.2.1 3), .long p0, .int p1, .int p2] σ none ss) : ∀ (n : Nat) (v1 : Int64) (v3 : Int32) (v4 : Int32) (v5 : Int32) (σ : ST), f_X9_meetTunes_L14 rec n v1 v3 v4 v5 σ = some ss → GW Γ 7 E σ 14 [(0, .ref (E.2.1 3)), (1, .long v1), (3, .int v3), (4, .int v4), (5, .int v5)] [] := by
  intro n
  induction n with
  | zero => intro v1 v3 v4 v5 σ hf; exact nomatch hf
  | succ n ih =>
    intro v1 v3 v4 v5 σ hf
    rw [f_X9_meetTunes_L14] at hf
    refine g_iload C 4 dX9_meetTunes_14 rfl ?_
    refine g_aload_n C 0 dX9_meetTunes_16 rfl ?_
    refine fg_X9_12_3 C dX9_meetTunes_17 ?_
    refine fg_X9_47_4 C dX9_meetTunes_20 ?_
    refine g_icmp_ge (tgt := 76) C dX9_meetTunes_23 (by decide) (fun c2 => ?_) (fun c2 => ?_)
    · rw [if_pos c2] at hf
      exact g_vretW C hR hf dX9_meetTunes_76
    · rw [if_neg c2] at hf
      refine g_aload_n C 0 dX9_meetTunes_26 rfl ?_
      refine g_iload_n C 2 dX9_meetTunes_27 rfl ?_
      refine g_iload C 4 dX9_meetTunes_28 rfl ?_
      refine g_lload_n C 1 dX9_meetTunes_30 rfl ?_
      obtain ⟨r4, h3, hf⟩ := o_bind hf
      refine g_callV C 3 (c_X9_passage l E h3) cls_8 k_X9_58 (fit_X9_meetTunes ⟨rfl, rfl, Nat.le_of_ble_eq_true rfl, Nat.le_of_ble_eq_true rfl⟩) (by decide) rfl rfl (Nat.le_of_ble_eq_true rfl) dX9_meetTunes_31 _ rfl ?_
      refine g_astoreq C dX9_meetTunes_34 (by decide) [(6, va_rf r4), (0, .ref (E.2.1 3)), (1, .long v1), (3, .int v3), (4, .int v4), (5, .int v5)] rfl ?_
      refine g_aloadq C 0 dX9_meetTunes_36 rfl ?_
      cases r4 with
      | none =>
        replace hf := o_el0 hf
        refine g_ifnullN C dX9_meetTunes_38 (tgt := 70) (by decide) ?_
        obtain ⟨x6, hx6, hf⟩ := o_let hf
        refine g_iinc C 5 dX9_meetTunes_70 rfl hx6 (by decide) [(5, .int x6), (6, .null), (0, .ref (E.2.1 3)), (1, .long v1), (3, .int v3), (4, .int v4)] rfl ?_
        refine g_goto (tgt := 14) C dX9_meetTunes_73 (by decide) ?_
        exact g_lv [(0, .ref (E.2.1 3)), (1, .long v1), (3, .int v3), (4, .int v4), (5, .int x6)] [2, 3, 4, 5, 0] rfl (ih v1 v3 v4 x6 σ hf)
      | some a5 =>
        replace hf := o_el1 hf
        refine g_ifnullR C dX9_meetTunes_38 ?_
        refine g_aload_n C 1 dX9_meetTunes_41 rfl ?_
        refine g_aload C 0 dX9_meetTunes_42 rfl ?_
        refine g_lload_n C 2 dX9_meetTunes_44 rfl ?_
        refine g_aload_n C 1 dX9_meetTunes_45 rfl ?_
        refine fg_X9_21_3 C dX9_meetTunes_46 ?_
        refine g_iload C 5 dX9_meetTunes_49 rfl ?_
        obtain ⟨r8, h7, hf⟩ := o_bind hf
        refine g_callV C 6 (c_X3_tonic l E h7) cls_3 k_X9_62 (fit_X9_meetTunes ⟨rfl, rfl, Nat.le_of_ble_eq_true rfl, Nat.le_of_ble_eq_true rfl⟩) (by decide) rfl rfl (Nat.le_of_ble_eq_true rfl) dX9_meetTunes_51 _ rfl ?_
        obtain ⟨h11, hf⟩ := o_if hf
        obtain ⟨r10, h9, hf⟩ := o_bind hf
        have Kr10 : GW Γ 7 E σ 57 [(6, .ref a5), (0, .ref (E.2.1 3)), (1, .long v1), (3, .int v3), (4, .int v4), (5, .int v5)] [.long r10, .ref (E.2.1 3)] := by
          refine g_aload C 0 dX9_meetTunes_57 rfl ?_
          refine g_iload_n C 3 dX9_meetTunes_59 rfl ?_
          obtain ⟨r13, h12, hf⟩ := o_bind hf
          have Kr13 : GW Γ 7 E σ 63 [(6, .ref a5), (0, .ref (E.2.1 3)), (1, .long v1), (3, .int v3), (4, .int v4), (5, .int v5)] [.int r13, .long r10, .ref (E.2.1 3)] := by
            refine g_iload C 4 dX9_meetTunes_63 rfl ?_
            refine g_iconst C dX9_meetTunes_65 (v := 1) (by decide) ?_
            refine g_isub C dX9_meetTunes_66 ?_
            obtain ⟨σ15, h14, hf⟩ := o_bind hf
            refine g_callV C 3 (hrec _ _ _ _ _ h14) cls_8 k_X9_106 fitS_X9_meetTunes (by decide) rfl rfl (Nat.le_of_ble_eq_true rfl) dX9_meetTunes_67 _ rfl ?_
            obtain ⟨x16, hx16, hf⟩ := o_let hf
            refine g_iinc C 5 dX9_meetTunes_70 rfl hx16 (by decide) [(5, .int x16), (6, .ref a5), (0, .ref (E.2.1 3)), (1, .long v1), (3, .int v3), (4, .int v4)] rfl ?_
            refine g_goto (tgt := 14) C dX9_meetTunes_73 (by decide) ?_
            exact g_lv [(0, .ref (E.2.1 3)), (1, .long v1), (3, .int v3), (4, .int v4), (5, .int x16)] [2, 3, 4, 5, 0] rfl (ih v1 v3 v4 x16 σ15 hf)
          rcases h11.2 with hk | hk | hk | hk | hk
          · exact g_callU C (c_X7_across l E a5 h11 h12) cls_0 h11.1 hk ku_X9_90_0 (fit_X9_meetTunes ⟨rfl, rfl, Nat.le_of_ble_eq_true rfl, Nat.le_of_ble_eq_true rfl⟩) rfl (Nat.le_of_ble_eq_true rfl) dX9_meetTunes_60 _ rfl Kr13
          · exact g_callU C (c_X7_across l E a5 h11 h12) cls_2 h11.1 hk ku_X9_90_2 (fit_X9_meetTunes ⟨rfl, rfl, Nat.le_of_ble_eq_true rfl, Nat.le_of_ble_eq_true rfl⟩) rfl (Nat.le_of_ble_eq_true rfl) dX9_meetTunes_60 _ rfl Kr13
          · exact g_callU C (c_X7_across l E a5 h11 h12) cls_5 h11.1 hk ku_X9_90_5 (fit_X9_meetTunes ⟨rfl, rfl, Nat.le_of_ble_eq_true rfl, Nat.le_of_ble_eq_true rfl⟩) rfl (Nat.le_of_ble_eq_true rfl) dX9_meetTunes_60 _ rfl Kr13
          · exact g_callU C (c_X7_across l E a5 h11 h12) cls_6 h11.1 hk ku_X9_90_6 (fit_X9_meetTunes ⟨rfl, rfl, Nat.le_of_ble_eq_true rfl, Nat.le_of_ble_eq_true rfl⟩) rfl (Nat.le_of_ble_eq_true rfl) dX9_meetTunes_60 _ rfl Kr13
          · exact g_callU C (c_X7_across l E a5 h11 h12) cls_7 h11.1 hk ku_X9_90_7 (fit_X9_meetTunes ⟨rfl, rfl, Nat.le_of_ble_eq_true rfl, Nat.le_of_ble_eq_true rfl⟩) rfl (Nat.le_of_ble_eq_true rfl) dX9_meetTunes_60 _ rfl Kr13
        rcases h11.2 with hk | hk | hk | hk | hk
        · exact g_callU C (c_X7_carry l E a5 h11 h9) cls_0 h11.1 hk ku_X9_66_0 (fit_X9_meetTunes ⟨rfl, rfl, Nat.le_of_ble_eq_true rfl, Nat.le_of_ble_eq_true rfl⟩) rfl (Nat.le_of_ble_eq_true rfl) dX9_meetTunes_54 _ rfl Kr10
        · exact g_callU C (c_X7_carry l E a5 h11 h9) cls_2 h11.1 hk ku_X9_66_2 (fit_X9_meetTunes ⟨rfl, rfl, Nat.le_of_ble_eq_true rfl, Nat.le_of_ble_eq_true rfl⟩) rfl (Nat.le_of_ble_eq_true rfl) dX9_meetTunes_54 _ rfl Kr10
        · exact g_callU C (c_X7_carry l E a5 h11 h9) cls_5 h11.1 hk ku_X9_66_5 (fit_X9_meetTunes ⟨rfl, rfl, Nat.le_of_ble_eq_true rfl, Nat.le_of_ble_eq_true rfl⟩) rfl (Nat.le_of_ble_eq_true rfl) dX9_meetTunes_54 _ rfl Kr10
        · exact g_callU C (c_X7_carry l E a5 h11 h9) cls_6 h11.1 hk ku_X9_66_6 (fit_X9_meetTunes ⟨rfl, rfl, Nat.le_of_ble_eq_true rfl, Nat.le_of_ble_eq_true rfl⟩) rfl (Nat.le_of_ble_eq_true rfl) dX9_meetTunes_54 _ rfl Kr10
        · exact g_callU C (c_X7_carry l E a5 h11 h9) cls_7 h11.1 hk ku_X9_66_7 (fit_X9_meetTunes ⟨rfl, rfl, Nat.le_of_ble_eq_true rfl, Nat.le_of_ble_eq_true rfl⟩) rfl (Nat.le_of_ble_eq_true rfl) dX9_meetTunes_54 _ rfl Kr10
set_option maxRecDepth 100000 in
set_option maxHeartbeats 4000000 in
theorem c_X9_meetTunes (l : Launch) (E : EV) : ∀ (d : Nat) (p0 : Int64) (p1 : Int32) (p2 : Int32) (σ ss : ST), f_X9_meetTunes d p0 p1 p2 σ = some ss → CT l E yX9_meetTunes cX9_meetTunes 7 none (rm_X9_meetTunes d) [.ref (E.2.1 3), .long p0, .int p1, .int p2] σ none ss := by
  intro d
  induction d with
  | zero => intro p0 p1 p2 σ ss hf; exact nomatch hf
  | succ d hrec =>
    intro p0 p1 p2 σ ss hf
    refine CT.of RX9 rfl (by decide) (Nat.le_of_ble_eq_true rfl) rfl rfl (fun Γ C hR => ?_)
    show GW Γ 7 E σ 0 [(0, .ref (E.2.1 3)), (1, .long p0), (3, .int p1), (4, .int p2)] []
    rw [f_X9_meetTunes] at hf
    refine g_iload C 3 dX9_meetTunes_0 rfl ?_
    refine g_if_gt (y := 0) (tgt := 11) C dX9_meetTunes_2 (by decide) (fun c1 => ?_) (fun c1 => ?_)
    · rw [if_pos c1] at hf
      refine g_iconst C dX9_meetTunes_11 (v := 0) (by decide) ?_
      refine g_istore C dX9_meetTunes_12 (by decide) [(5, .int 0), (0, .ref (E.2.1 3)), (1, .long p0), (3, .int p1), (4, .int p2)] rfl ?_
      exact g_lv [(0, .ref (E.2.1 3)), (1, .long p0), (3, .int p1), (4, .int p2), (5, .int 0)] [1, 2, 3, 4, 0] rfl (t_X9_meetTunes_L14 C hR hrec fuel p0 p1 p2 0 σ hf)
    · rw [if_neg c1] at hf
      refine g_aload_n C 0 dX9_meetTunes_5 rfl ?_
      refine g_lload_n C 1 dX9_meetTunes_6 rfl ?_
      obtain ⟨σ18, h17, hf⟩ := o_bind hf
      refine g_callV C 3 (c_X9_meet l E h17) cls_8 k_X9_110 (fit_X9_meetTunes ⟨rfl, rfl, Nat.le_of_ble_eq_true rfl, Nat.le_of_ble_eq_true rfl⟩) (by decide) rfl rfl (Nat.le_of_ble_eq_true rfl) dX9_meetTunes_7 _ rfl ?_
      exact g_vretW C hR hf dX9_meetTunes_10
abbrev rm_X9_tunesBehind : Room := { frames := 37, cells := 0, slots := 0, locals := 935 }
set_option maxRecDepth 100000 in
set_option maxHeartbeats 4000000 in
theorem t_X9_tunesBehind_B29 {Γ : CX} {l : Launch} {E : EV} {rr : Int32} {ss : ST} (C : FX Γ l cX9_tunesBehind 3 RX9 rm_X9_tunesBehind E) (hR : RT Γ (some .int) E (some (.int rr)) ss) (v1 : Int32) (σ : ST) (hf : f_X9_tunesBehind_B29 v1 σ = some (rr, ss)) : GW Γ 3 E σ 29 [(0, .ref (E.2.1 3)), (1, .int v1)] [] := by
  rw [f_X9_tunesBehind_B29] at hf
  refine g_aload_n C 0 dX9_tunesBehind_29 rfl ?_
  refine g_aload_n C 0 dX9_tunesBehind_30 rfl ?_
  refine fg_X9_21_3 C dX9_tunesBehind_31 ?_
  refine fg_X9_54_6 C dX9_tunesBehind_34 ?_
  refine g_aload_n C 0 dX9_tunesBehind_37 rfl ?_
  refine fg_X9_21_3 C dX9_tunesBehind_38 ?_
  refine fg_X9_51_6 C dX9_tunesBehind_41 ?_
  refine g_iload_n C 1 dX9_tunesBehind_44 rfl ?_
  refine g_iconst C dX9_tunesBehind_45 (v := 3) (by decide) ?_
  refine g_mmin C dX9_tunesBehind_46 mk_X9_100 (Nat.le_of_ble_eq_true rfl) (Nat.le_of_ble_eq_true rfl) ?_
  obtain ⟨σ4, h3, hf⟩ := o_bind hf
  refine g_callV C 3 (c_X9_meetTunes l E 8 _ _ _ _ _ h3) cls_8 k_X9_106 ⟨rfl, rfl, Nat.le_of_ble_eq_true rfl, Nat.le_of_ble_eq_true rfl⟩ (by decide) rfl rfl (Nat.le_of_ble_eq_true rfl) dX9_tunesBehind_49 _ rfl ?_
  refine g_aload_n C 0 dX9_tunesBehind_52 rfl ?_
  refine fg_X9_97_3 C dX9_tunesBehind_53 ?_
  exact g_iretW C hR hf dX9_tunesBehind_56
set_option maxRecDepth 100000 in
set_option maxHeartbeats 4000000 in
theorem t_X9_tunesBehind_L7 {Γ : CX} {l : Launch} {E : EV} {rr : Int32} {ss : ST} (C : FX Γ l cX9_tunesBehind 3 RX9 rm_X9_tunesBehind E) (hR : RT Γ (some .int) E (some (.int rr)) ss) : ∀ (n : Nat) (v1 : Int32) (v2 : Int32) (σ : ST), f_X9_tunesBehind_L7 n v1 v2 σ = some (rr, ss) → GW Γ 3 E σ 7 [(0, .ref (E.2.1 3)), (1, .int v1), (2, .int v2)] [] := by
  intro n
  induction n with
  | zero => intro v1 v2 σ hf; exact nomatch hf
  | succ n ih =>
    intro v1 v2 σ hf
    rw [f_X9_tunesBehind_L7] at hf
    refine g_iload_n C 2 dX9_tunesBehind_7 rfl ?_
    refine g_aload_n C 0 dX9_tunesBehind_8 rfl ?_
    refine fg_X9_29_3 C dX9_tunesBehind_9 ?_
    refine g_alen C 13 1 dX9_tunesBehind_12 (by decide) rfl rfl (v := 1024) rfl ?_
    refine g_icmp_ge (tgt := 29) C dX9_tunesBehind_13 (by decide) (fun c2 => ?_) (fun c2 => ?_)
    · rw [if_pos c2] at hf
      exact g_lv [(0, .ref (E.2.1 3)), (1, .int v1)] [0, 1] rfl (t_X9_tunesBehind_B29 C hR v1 σ hf)
    · rw [if_neg c2] at hf
      refine g_aload_n C 0 dX9_tunesBehind_16 rfl ?_
      refine fg_X9_29_3 C dX9_tunesBehind_17 ?_
      refine g_iload_n C 2 dX9_tunesBehind_20 rfl ?_
      refine g_lconst C dX9_tunesBehind_21 (v := 0) (by decide) ?_
      obtain ⟨h6, hf⟩ := o_if hf
      obtain ⟨σ5, hσ5, hf⟩ := o_let hf
      refine g_last C σ5 dX9_tunesBehind_22 h6 hσ5.symm ?_
      obtain ⟨x7, hx7, hf⟩ := o_let hf
      refine g_iinc C 2 dX9_tunesBehind_23 rfl hx7 (by decide) [(2, .int x7), (0, .ref (E.2.1 3)), (1, .int v1)] rfl ?_
      refine g_goto (tgt := 7) C dX9_tunesBehind_26 (by decide) ?_
      exact g_lv [(0, .ref (E.2.1 3)), (1, .int v1), (2, .int x7)] [1, 2, 0] rfl (ih v1 x7 σ5 hf)
set_option maxRecDepth 100000 in
set_option maxHeartbeats 4000000 in
theorem c_X9_tunesBehind (l : Launch) (E : EV) {σ ss : ST} {p0 : Int32} {rr : Int32} (hf : f_X9_tunesBehind p0 σ = some (rr, ss)) : CT l E yX9_tunesBehind cX9_tunesBehind 3 (some .int) rm_X9_tunesBehind [.ref (E.2.1 3), .int p0] σ (some (.int rr)) ss := by
  refine CT.of RX9 rfl (by decide) (Nat.le_of_ble_eq_true rfl) rfl rfl (fun Γ C hR => ?_)
  show GW Γ 3 E σ 0 [(0, .ref (E.2.1 3)), (1, .int p0)] []
  rw [f_X9_tunesBehind] at hf
  refine g_aload_n C 0 dX9_tunesBehind_0 rfl ?_
  refine g_iconst C dX9_tunesBehind_1 (v := 0) (by decide) ?_
  obtain ⟨σ1, hσ1, hf⟩ := o_let hf
  refine fp_X9_97_3 C dX9_tunesBehind_2 hσ1 ?_
  refine g_iconst C dX9_tunesBehind_5 (v := 0) (by decide) ?_
  refine g_istore_n C dX9_tunesBehind_6 (by decide) [(2, .int 0), (0, .ref (E.2.1 3)), (1, .int p0)] rfl ?_
  exact g_lv [(0, .ref (E.2.1 3)), (1, .int p0), (2, .int 0)] [1, 2, 0] rfl (t_X9_tunesBehind_L7 C hR fuel p0 0 σ1 hf)
abbrev rm_X9_drawStreet : Room := { frames := 3, cells := 0, slots := 0, locals := 68 }
set_option maxRecDepth 100000 in
set_option maxHeartbeats 4000000 in
theorem c_X9_drawStreet (l : Launch) (E : EV) {σ ss : ST} {p0 : Int32} {rr : Int32} (hf : f_X9_drawStreet p0 σ = some (rr, ss)) : CT l E yX9_drawStreet cX9_drawStreet 3 (some .int) rm_X9_drawStreet [.ref (E.2.1 3), .int p0] σ (some (.int rr)) ss := by
  refine CT.of RX9 rfl (by decide) (Nat.le_of_ble_eq_true rfl) rfl rfl (fun Γ C hR => ?_)
  show GW Γ 3 E σ 0 [(0, .ref (E.2.1 3)), (1, .int p0)] []
  rw [f_X9_drawStreet] at hf
  refine g_aload_n C 0 dX9_drawStreet_0 rfl ?_
  refine fg_X9_12_3 C dX9_drawStreet_1 ?_
  refine g_iload_n C 1 dX9_drawStreet_4 rfl ?_
  obtain ⟨r2, h1, hf⟩ := o_bind hf
  refine g_callV C 4 (c_X1_countAt l E h1) cls_1 k_X9_128 ⟨rfl, rfl, Nat.le_of_ble_eq_true rfl, Nat.le_of_ble_eq_true rfl⟩ (by decide) rfl rfl (Nat.le_of_ble_eq_true rfl) dX9_drawStreet_5 _ rfl ?_
  refine g_istore_n C dX9_drawStreet_8 (by decide) [(2, .int r2), (0, .ref (E.2.1 3)), (1, .int p0)] rfl ?_
  refine g_iload_n C 0 dX9_drawStreet_9 rfl ?_
  refine g_if_gt (y := 0) (tgt := 15) C dX9_drawStreet_10 (by decide) (fun c3 => ?_) (fun c3 => ?_)
  · rw [if_pos c3] at hf
    refine g_aload_n C 1 dX9_drawStreet_15 rfl ?_
    refine g_ldc2 C dX9_drawStreet_16 (v := 1103515245) kl_X9_131 ?_
    refine g_aload_n C 1 dX9_drawStreet_19 rfl ?_
    refine fg_X9_122_3 C dX9_drawStreet_20 ?_
    refine g_lmul C dX9_drawStreet_23 ?_
    refine g_ldc2 C dX9_drawStreet_24 (v := 12345) kl_X9_133 ?_
    refine g_ladd C dX9_drawStreet_27 ?_
    refine g_ldc2 C dX9_drawStreet_28 (v := 2147483648) kl_X9_135 ?_
    refine g_lrem C dX9_drawStreet_31 (by decide) ?_
    obtain ⟨σ4, hσ4, hf⟩ := o_let hf
    refine fp_X9_122_3 C dX9_drawStreet_32 hσ4 ?_
    refine g_aload_n C 1 dX9_drawStreet_35 rfl ?_
    refine fg_X9_12_3 C dX9_drawStreet_36 ?_
    refine g_iload_n C 2 dX9_drawStreet_39 rfl ?_
    refine g_aload_n C 1 dX9_drawStreet_40 rfl ?_
    refine fg_X9_122_3 C dX9_drawStreet_41 ?_
    refine g_ldc2 C dX9_drawStreet_44 (v := 65536) kl_X9_137 ?_
    refine g_ldiv C dX9_drawStreet_47 (by decide) ?_
    refine g_iload_n C 0 dX9_drawStreet_48 rfl ?_
    refine g_i2l C dX9_drawStreet_49 ?_
    obtain ⟨h5, hf⟩ := o_if hf
    refine g_lrem C dX9_drawStreet_50 h5 ?_
    refine g_l2i C dX9_drawStreet_51 ?_
    obtain ⟨r7, h6, hf⟩ := o_bind hf
    refine g_callV C 4 (c_X1_numberAt l E h6) cls_1 k_X9_139 ⟨rfl, rfl, Nat.le_of_ble_eq_true rfl, Nat.le_of_ble_eq_true rfl⟩ (by decide) rfl rfl (Nat.le_of_ble_eq_true rfl) dX9_drawStreet_52 _ rfl ?_
    exact g_iretW C hR hf dX9_drawStreet_55
  · rw [if_neg c3] at hf
    refine g_iconst C dX9_drawStreet_13 (v := (-1)) (by decide) ?_
    exact g_iretW C hR hf dX9_drawStreet_14
abbrev rm_X9_wanderOff : Room := { frames := 4, cells := 0, slots := 0, locals := 101 }
set_option maxRecDepth 100000 in
set_option maxHeartbeats 4000000 in
theorem t_X9_wanderOff_B103 {Γ : CX} {l : Launch} {E : EV} {ss : ST} (k_33 : Int32 → Int64 → Int32 → ST → Option (ST)) (C : FX Γ l cX9_wanderOff 8 RX9 rm_X9_wanderOff E) (hR : RT Γ none E none ss) (hk_33 : ∀ (v1 : Int32) (v3 : Int64) (v5 : Int32) (σ : ST), k_33 v1 v3 v5 σ = some ss → GW Γ 8 E σ 33 [(0, .ref (E.2.1 3)), (1, .int v1), (3, .long v3), (5, .int v5)] []) (v1 : Int32) (v3 : Int64) (v5 : Int32) (σ : ST) (hf : f_X9_wanderOff_B103 k_33 v1 v3 v5 σ = some ss) : GW Γ 8 E σ 103 [(0, .ref (E.2.1 3)), (1, .int v1), (3, .long v3), (5, .int v5)] [] := by
  rw [f_X9_wanderOff_B103] at hf
  refine g_lload_n C 2 dX9_wanderOff_103 rfl ?_
  refine g_aload_n C 0 dX9_wanderOff_104 rfl ?_
  refine fg_X9_21_3 C dX9_wanderOff_105 ?_
  refine fg_X9_70_6 C dX9_wanderOff_108 ?_
  refine g_lcmp_ne (tgt := 125) C dX9_wanderOff_111 dX9_wanderOff_112 (by decide) (fun c13 => ?_) (fun c13 => ?_)
  · rw [if_neg c13] at hf
    obtain ⟨x14, hx14, hf⟩ := o_let hf
    refine g_iinc C 3 dX9_wanderOff_125 rfl hx14 (by decide) [(5, .int x14), (0, .ref (E.2.1 3)), (1, .int v1), (3, .long v3)] rfl ?_
    refine g_goto (tgt := 33) C dX9_wanderOff_128 (by decide) ?_
    exact g_lv [(0, .ref (E.2.1 3)), (1, .int v1), (3, .long v3), (5, .int x14)] [1, 2, 3, 0] rfl (hk_33 v1 v3 x14 σ hf)
  · rw [if_pos c13] at hf
    refine g_aload_n C 0 dX9_wanderOff_115 rfl ?_
    refine g_dup C dX9_wanderOff_116 rfl ?_
    refine fg_X9_116_3 C dX9_wanderOff_117 ?_
    refine g_iconst C dX9_wanderOff_120 (v := 1) (by decide) ?_
    refine g_iadd C dX9_wanderOff_121 ?_
    obtain ⟨σ15, hσ15, hf⟩ := o_let hf
    refine fp_X9_116_3 C dX9_wanderOff_122 hσ15 ?_
    obtain ⟨x16, hx16, hf⟩ := o_let hf
    refine g_iinc C 3 dX9_wanderOff_125 rfl hx16 (by decide) [(5, .int x16), (0, .ref (E.2.1 3)), (1, .int v1), (3, .long v3)] rfl ?_
    refine g_goto (tgt := 33) C dX9_wanderOff_128 (by decide) ?_
    exact g_lv [(0, .ref (E.2.1 3)), (1, .int v1), (3, .long v3), (5, .int x16)] [1, 2, 3, 0] rfl (hk_33 v1 v3 x16 σ15 hf)
set_option maxRecDepth 100000 in
set_option maxHeartbeats 4000000 in
theorem t_X9_wanderOff_L33 {Γ : CX} {l : Launch} {E : EV} {ss : ST} (C : FX Γ l cX9_wanderOff 8 RX9 rm_X9_wanderOff E) (hR : RT Γ none E none ss) : ∀ (n : Nat) (v1 : Int32) (v3 : Int64) (v5 : Int32) (σ : ST), f_X9_wanderOff_L33 n v1 v3 v5 σ = some ss → GW Γ 8 E σ 33 [(0, .ref (E.2.1 3)), (1, .int v1), (3, .long v3), (5, .int v5)] [] := by
  intro n
  induction n with
  | zero => intro v1 v3 v5 σ hf; exact nomatch hf
  | succ n ih =>
    intro v1 v3 v5 σ hf
    rw [f_X9_wanderOff_L33] at hf
    refine g_iload C 3 dX9_wanderOff_33 rfl ?_
    refine g_iload_n C 1 dX9_wanderOff_35 rfl ?_
    refine g_icmp_ge (tgt := 131) C dX9_wanderOff_36 (by decide) (fun c5 => ?_) (fun c5 => ?_)
    · rw [if_pos c5] at hf
      exact g_vretW C hR hf dX9_wanderOff_131
    · rw [if_neg c5] at hf
      refine g_iload C 3 dX9_wanderOff_39 rfl ?_
      refine g_bipush C dX9_wanderOff_41 (v := 60) (by decide) ?_
      refine g_icmp_ge (tgt := 131) C dX9_wanderOff_43 (by decide) (fun c6 => ?_) (fun c6 => ?_)
      · rw [if_pos c6] at hf
        exact g_vretW C hR hf dX9_wanderOff_131
      · rw [if_neg c6] at hf
        refine g_aload_n C 0 dX9_wanderOff_46 rfl ?_
        refine g_aload_n C 0 dX9_wanderOff_47 rfl ?_
        refine fg_X9_119_3 C dX9_wanderOff_48 ?_
        obtain ⟨r9, σ8, h7, hf⟩ := o_bind2 hf
        refine g_callV C 3 (c_X9_drawStreet l E h7) cls_8 k_X9_125 ⟨rfl, rfl, Nat.le_of_ble_eq_true rfl, Nat.le_of_ble_eq_true rfl⟩ (by decide) rfl rfl (Nat.le_of_ble_eq_true rfl) dX9_wanderOff_51 _ rfl ?_
        refine g_istore C dX9_wanderOff_54 (by decide) [(6, .int r9), (0, .ref (E.2.1 3)), (1, .int v1), (3, .long v3), (5, .int v5)] rfl ?_
        refine g_aload_n C 1 dX9_wanderOff_56 rfl ?_
        refine g_aload_n C 1 dX9_wanderOff_57 rfl ?_
        refine fg_X9_119_3 C dX9_wanderOff_58 ?_
        refine g_iload C 0 dX9_wanderOff_61 rfl ?_
        refine g_lload_n C 3 dX9_wanderOff_63 rfl ?_
        obtain ⟨r11, h10, hf⟩ := o_bind hf
        refine g_callV C 3 (c_X9_passage l E h10) cls_8 k_X9_58 ⟨rfl, rfl, Nat.le_of_ble_eq_true rfl, Nat.le_of_ble_eq_true rfl⟩ (by decide) rfl rfl (Nat.le_of_ble_eq_true rfl) dX9_wanderOff_64 _ rfl ?_
        refine g_astoreq C dX9_wanderOff_67 (by decide) [(7, va_rf r11), (6, .int r9), (0, .ref (E.2.1 3)), (1, .int v1), (3, .long v3), (5, .int v5)] rfl ?_
        refine g_aloadq C 0 dX9_wanderOff_69 rfl ?_
        cases r11 with
        | none =>
          replace hf := o_el0 hf
          refine g_ifnullN C dX9_wanderOff_71 (tgt := 103) (by decide) ?_
          exact g_lv [(0, .ref (E.2.1 3)), (1, .int v1), (3, .long v3), (5, .int v5)] [2, 3, 4, 5] rfl (t_X9_wanderOff_B103 ((f_X9_wanderOff_L33 n)) C hR ih v1 v3 v5 σ8 hf)
        | some a12 =>
          replace hf := o_el1 hf
          refine g_ifnullR C dX9_wanderOff_71 ?_
          refine g_aload C 0 dX9_wanderOff_74 rfl ?_
          refine g_lload_n C 4 dX9_wanderOff_76 rfl ?_
          refine g_aload_n C 2 dX9_wanderOff_77 rfl ?_
          refine fg_X9_21_3 C dX9_wanderOff_78 ?_
          refine g_iload C 1 dX9_wanderOff_81 rfl ?_
          obtain ⟨r18, h17, hf⟩ := o_bind hf
          refine g_callV C 6 (c_X3_tonic l E h17) cls_3 k_X9_62 ⟨rfl, rfl, Nat.le_of_ble_eq_true rfl, Nat.le_of_ble_eq_true rfl⟩ (by decide) rfl rfl (Nat.le_of_ble_eq_true rfl) dX9_wanderOff_83 _ rfl ?_
          obtain ⟨h21, hf⟩ := o_if hf
          obtain ⟨r20, h19, hf⟩ := o_bind hf
          have Kr20 : GW Γ 8 E σ8 89 [(7, .ref a12), (6, .int r9), (0, .ref (E.2.1 3)), (1, .int v1), (3, .long v3), (5, .int v5)] [.long r20] := by
            refine g_lstore_n C dX9_wanderOff_89 (by decide) [(3, .long r20), (7, .ref a12), (6, .int r9), (0, .ref (E.2.1 3)), (1, .int v1), (5, .int v5)] rfl ?_
            refine g_aload_n C 3 dX9_wanderOff_90 rfl ?_
            refine g_aload C 1 dX9_wanderOff_91 rfl ?_
            refine g_aload_n C 3 dX9_wanderOff_93 rfl ?_
            refine fg_X9_119_3 C dX9_wanderOff_94 ?_
            obtain ⟨r23, h22, hf⟩ := o_bind hf
            have Kr23 : GW Γ 8 E σ8 100 [(3, .long r20), (7, .ref a12), (6, .int r9), (0, .ref (E.2.1 3)), (1, .int v1), (5, .int v5)] [.int r23, .ref (E.2.1 3)] := by
              obtain ⟨σ24, hσ24, hf⟩ := o_let hf
              refine fp_X9_119_3 C dX9_wanderOff_100 hσ24 ?_
              exact g_lv [(0, .ref (E.2.1 3)), (1, .int v1), (3, .long r20), (5, .int v5)] [3, 4, 0, 5] rfl (t_X9_wanderOff_B103 ((f_X9_wanderOff_L33 n)) C hR ih v1 r20 v5 σ24 hf)
            rcases h21.2 with hk | hk | hk | hk | hk
            · exact g_callU C (c_X7_across l E a12 h21 h22) cls_0 h21.1 hk ku_X9_90_0 ⟨rfl, rfl, Nat.le_of_ble_eq_true rfl, Nat.le_of_ble_eq_true rfl⟩ rfl (Nat.le_of_ble_eq_true rfl) dX9_wanderOff_97 _ rfl Kr23
            · exact g_callU C (c_X7_across l E a12 h21 h22) cls_2 h21.1 hk ku_X9_90_2 ⟨rfl, rfl, Nat.le_of_ble_eq_true rfl, Nat.le_of_ble_eq_true rfl⟩ rfl (Nat.le_of_ble_eq_true rfl) dX9_wanderOff_97 _ rfl Kr23
            · exact g_callU C (c_X7_across l E a12 h21 h22) cls_5 h21.1 hk ku_X9_90_5 ⟨rfl, rfl, Nat.le_of_ble_eq_true rfl, Nat.le_of_ble_eq_true rfl⟩ rfl (Nat.le_of_ble_eq_true rfl) dX9_wanderOff_97 _ rfl Kr23
            · exact g_callU C (c_X7_across l E a12 h21 h22) cls_6 h21.1 hk ku_X9_90_6 ⟨rfl, rfl, Nat.le_of_ble_eq_true rfl, Nat.le_of_ble_eq_true rfl⟩ rfl (Nat.le_of_ble_eq_true rfl) dX9_wanderOff_97 _ rfl Kr23
            · exact g_callU C (c_X7_across l E a12 h21 h22) cls_7 h21.1 hk ku_X9_90_7 ⟨rfl, rfl, Nat.le_of_ble_eq_true rfl, Nat.le_of_ble_eq_true rfl⟩ rfl (Nat.le_of_ble_eq_true rfl) dX9_wanderOff_97 _ rfl Kr23
          rcases h21.2 with hk | hk | hk | hk | hk
          · exact g_callU C (c_X7_carry l E a12 h21 h19) cls_0 h21.1 hk ku_X9_66_0 ⟨rfl, rfl, Nat.le_of_ble_eq_true rfl, Nat.le_of_ble_eq_true rfl⟩ rfl (Nat.le_of_ble_eq_true rfl) dX9_wanderOff_86 _ rfl Kr20
          · exact g_callU C (c_X7_carry l E a12 h21 h19) cls_2 h21.1 hk ku_X9_66_2 ⟨rfl, rfl, Nat.le_of_ble_eq_true rfl, Nat.le_of_ble_eq_true rfl⟩ rfl (Nat.le_of_ble_eq_true rfl) dX9_wanderOff_86 _ rfl Kr20
          · exact g_callU C (c_X7_carry l E a12 h21 h19) cls_5 h21.1 hk ku_X9_66_5 ⟨rfl, rfl, Nat.le_of_ble_eq_true rfl, Nat.le_of_ble_eq_true rfl⟩ rfl (Nat.le_of_ble_eq_true rfl) dX9_wanderOff_86 _ rfl Kr20
          · exact g_callU C (c_X7_carry l E a12 h21 h19) cls_6 h21.1 hk ku_X9_66_6 ⟨rfl, rfl, Nat.le_of_ble_eq_true rfl, Nat.le_of_ble_eq_true rfl⟩ rfl (Nat.le_of_ble_eq_true rfl) dX9_wanderOff_86 _ rfl Kr20
          · exact g_callU C (c_X7_carry l E a12 h21 h19) cls_7 h21.1 hk ku_X9_66_7 ⟨rfl, rfl, Nat.le_of_ble_eq_true rfl, Nat.le_of_ble_eq_true rfl⟩ rfl (Nat.le_of_ble_eq_true rfl) dX9_wanderOff_86 _ rfl Kr20
set_option maxRecDepth 100000 in
set_option maxHeartbeats 4000000 in
theorem c_X9_wanderOff (l : Launch) (E : EV) {σ ss : ST} {p0 : Int32} {p1 : Int32} (hf : f_X9_wanderOff p0 p1 σ = some ss) : CT l E yX9_wanderOff cX9_wanderOff 8 none rm_X9_wanderOff [.ref (E.2.1 3), .int p0, .int p1] σ none ss := by
  refine CT.of RX9 rfl (by decide) (Nat.le_of_ble_eq_true rfl) rfl rfl (fun Γ C hR => ?_)
  show GW Γ 8 E σ 0 [(0, .ref (E.2.1 3)), (1, .int p0), (2, .int p1)] []
  rw [f_X9_wanderOff] at hf
  refine g_aload_n C 0 dX9_wanderOff_0 rfl ?_
  refine fg_X9_21_3 C dX9_wanderOff_1 ?_
  refine fg_X9_54_6 C dX9_wanderOff_4 ?_
  obtain ⟨x1, hx1, hf⟩ := o_let hf
  refine g_topl hx1 ?_
  refine g_lstore_n C dX9_wanderOff_7 (by decide) [(3, .long x1), (0, .ref (E.2.1 3)), (1, .int p0), (2, .int p1)] rfl ?_
  refine g_aload_n C 1 dX9_wanderOff_8 rfl ?_
  refine g_iconst C dX9_wanderOff_9 (v := 0) (by decide) ?_
  obtain ⟨σ2, hσ2, hf⟩ := o_let hf
  refine fp_X9_116_3 C dX9_wanderOff_10 hσ2 ?_
  refine g_aload_n C 1 dX9_wanderOff_13 rfl ?_
  refine g_aload_n C 1 dX9_wanderOff_14 rfl ?_
  refine fg_X9_21_3 C dX9_wanderOff_15 ?_
  refine fg_X9_51_6 C dX9_wanderOff_18 ?_
  obtain ⟨σ3, hσ3, hf⟩ := o_let hf
  refine fp_X9_119_3 C dX9_wanderOff_21 hσ3 ?_
  refine g_aload_n C 1 dX9_wanderOff_24 rfl ?_
  refine g_iload_n C 3 dX9_wanderOff_25 rfl ?_
  refine g_i2l C dX9_wanderOff_26 ?_
  obtain ⟨σ4, hσ4, hf⟩ := o_let hf
  refine fp_X9_122_3 C dX9_wanderOff_27 hσ4 ?_
  refine g_iconst C dX9_wanderOff_30 (v := 0) (by decide) ?_
  refine g_istore C dX9_wanderOff_31 (by decide) [(5, .int 0), (3, .long x1), (0, .ref (E.2.1 3)), (1, .int p0), (2, .int p1)] rfl ?_
  exact g_lv [(0, .ref (E.2.1 3)), (1, .int p0), (3, .long x1), (5, .int 0)] [2, 3, 1, 0] rfl (t_X9_wanderOff_L33 C hR fuel p0 x1 0 σ4 hf)
abbrev rm_X10_mix : Room := { frames := 0, cells := 0, slots := 0, locals := 0 }
set_option maxRecDepth 100000 in
set_option maxHeartbeats 4000000 in
theorem c_X10_mix (l : Launch) (E : EV) {σ : ST} {p0 : Int64} {p1 : Int32} {rr : Int64} (hf : f_X10_mix p0 p1 = some rr) : CT l E yX10_mix cX10_mix 3 (some .long) rm_X10_mix [.long p0, .int p1] σ (some (.long rr)) σ := by
  refine CT.of RX10 rfl (by decide) (Nat.le_of_ble_eq_true rfl) rfl rfl (fun Γ C hR => ?_)
  show GW Γ 3 E σ 0 [(0, .long p0), (2, .int p1)] []
  rw [f_X10_mix] at hf
  refine g_ldc2 C dX10_mix_0 (v := 31) kl_X10_287 ?_
  refine g_lload_n C 0 dX10_mix_3 rfl ?_
  refine g_lmul C dX10_mix_4 ?_
  refine g_iload_n C 1 dX10_mix_5 rfl ?_
  refine g_i2l C dX10_mix_6 ?_
  refine g_ladd C dX10_mix_7 ?_
  exact g_lretR C hR hf dX10_mix_8
abbrev rm_X10_noCity : Room := { frames := 0, cells := 0, slots := 0, locals := 0 }
set_option maxRecDepth 100000 in
set_option maxHeartbeats 4000000 in
theorem c_X10_noCity (l : Launch) (E : EV) {σ : ST} {rr : Int32} (hf : f_X10_noCity σ = some rr) : CT l E yX10_noCity cX10_noCity 1 (some .boolean) rm_X10_noCity [.ref (E.2.1 0)] σ (some (.int rr)) σ := by
  refine CT.of RX10 rfl (by decide) (Nat.le_of_ble_eq_true rfl) rfl rfl (fun Γ C hR => ?_)
  show GW Γ 1 E σ 0 [(0, .ref (E.2.1 0))] []
  rw [f_X10_noCity] at hf
  refine g_aload_n C 0 dX10_noCity_0 rfl ?_
  refine fg_X10_27_0 C dX10_noCity_1 ?_
  refine fg_X10_61_4 C dX10_noCity_4 ?_
  refine g_if_ne (y := 0) (tgt := 14) C dX10_noCity_7 (by decide) (fun c1 => ?_) (fun c1 => ?_)
  · rw [if_neg c1] at hf
    refine g_iconst C dX10_noCity_14 (v := 0) (by decide) ?_
    exact g_zretR C hR hf (by decide) dX10_noCity_15
  · rw [if_pos c1] at hf
    refine g_iconst C dX10_noCity_10 (v := 1) (by decide) ?_
    refine g_goto (tgt := 15) C dX10_noCity_11 (by decide) ?_
    exact g_zretR C hR hf (by decide) dX10_noCity_15
abbrev rm_X10_noTunes : Room := { frames := 0, cells := 0, slots := 0, locals := 0 }
set_option maxRecDepth 100000 in
set_option maxHeartbeats 4000000 in
theorem c_X10_noTunes (l : Launch) (E : EV) {σ : ST} {rr : Int32} (hf : f_X10_noTunes σ = some rr) : CT l E yX10_noTunes cX10_noTunes 1 (some .boolean) rm_X10_noTunes [.ref (E.2.1 0)] σ (some (.int rr)) σ := by
  refine CT.of RX10 rfl (by decide) (Nat.le_of_ble_eq_true rfl) rfl rfl (fun Γ C hR => ?_)
  show GW Γ 1 E σ 0 [(0, .ref (E.2.1 0))] []
  rw [f_X10_noTunes] at hf
  refine g_aload_n C 0 dX10_noTunes_0 rfl ?_
  refine fg_X10_32_0 C dX10_noTunes_1 ?_
  refine fg_X10_154_6 C dX10_noTunes_4 ?_
  refine g_lconst C dX10_noTunes_7 (v := 0) (by decide) ?_
  refine g_lcmp_eq (tgt := 24) C dX10_noTunes_8 dX10_noTunes_9 (by decide) (fun c1 => ?_) (fun c1 => ?_)
  · rw [if_pos c1] at hf
    refine g_iconst C dX10_noTunes_24 (v := 1) (by decide) ?_
    refine g_goto (tgt := 29) C dX10_noTunes_25 (by decide) ?_
    exact g_zretR C hR hf (by decide) dX10_noTunes_29
  · rw [if_neg c1] at hf
    refine g_aload_n C 0 dX10_noTunes_12 rfl ?_
    refine fg_X10_32_0 C dX10_noTunes_13 ?_
    refine fg_X10_217_6 C dX10_noTunes_16 ?_
    refine g_lconst C dX10_noTunes_19 (v := 0) (by decide) ?_
    refine g_lcmp_ne (tgt := 28) C dX10_noTunes_20 dX10_noTunes_21 (by decide) (fun c2 => ?_) (fun c2 => ?_)
    · rw [if_neg c2] at hf
      refine g_iconst C dX10_noTunes_28 (v := 0) (by decide) ?_
      exact g_zretR C hR hf (by decide) dX10_noTunes_29
    · rw [if_pos c2] at hf
      refine g_iconst C dX10_noTunes_24 (v := 1) (by decide) ?_
      refine g_goto (tgt := 29) C dX10_noTunes_25 (by decide) ?_
      exact g_zretR C hR hf (by decide) dX10_noTunes_29
abbrev rm_X10_leaves : Room := { frames := 4, cells := 0, slots := 0, locals := 97 }
set_option maxRecDepth 100000 in
set_option maxHeartbeats 4000000 in
theorem t_X10_leaves_L4 {Γ : CX} {l : Launch} {E : EV} {a1 : Nat} {σ : ST} {rr : Int32} (C : FX Γ l cX10_leaves 4 RX10 rm_X10_leaves E) (hR : RT Γ (some .int) E (some (.int rr)) σ) (hp1 : pv σ a1) : ∀ (n : Nat) (v1 : Int32) (v2 : Int32) (v3 : Int32), f_X10_leaves_L4 a1 σ n v1 v2 v3 = some rr → GW Γ 4 E σ 4 [(0, .ref a1), (1, .int v1), (2, .int v2), (3, .int v3)] [] := by
  intro n
  induction n with
  | zero => intro v1 v2 v3 hf; exact nomatch hf
  | succ n ih =>
    intro v1 v2 v3 hf
    rw [f_X10_leaves_L4] at hf
    refine g_iload_n C 3 dX10_leaves_4 rfl ?_
    refine g_bipush C dX10_leaves_5 (v := 12) (by decide) ?_
    refine g_icmp_ge (tgt := 32) C dX10_leaves_7 (by decide) (fun c1 => ?_) (fun c1 => ?_)
    · rw [if_pos c1] at hf
      refine g_iload_n C 2 dX10_leaves_32 rfl ?_
      exact g_iretR C hR hf dX10_leaves_33
    · rw [if_neg c1] at hf
      refine g_aload_n C 0 dX10_leaves_10 rfl ?_
      refine g_iload_n C 3 dX10_leaves_11 rfl ?_
      refine g_iload_n C 1 dX10_leaves_12 rfl ?_
      obtain ⟨r3, h2, hf⟩ := o_bind hf
      have Kr3 : GW Γ 4 E σ 16 [(0, .ref a1), (1, .int v1), (2, .int v2), (3, .int v3)] [.int r3] := by
        refine g_iload_n C 3 dX10_leaves_16 rfl ?_
        obtain ⟨x4, ex4, hf⟩ := o_let hf
        have Kx4 : GW Γ 4 E σ 26 [(0, .ref a1), (1, .int v1), (2, .int x4), (3, .int v3)] [] := by
          obtain ⟨x6, hx6, hf⟩ := o_let hf
          refine g_iinc C 3 dX10_leaves_26 rfl hx6 (by decide) [(3, .int x6), (0, .ref a1), (1, .int v1), (2, .int x4)] rfl ?_
          refine g_goto (tgt := 4) C dX10_leaves_29 (by decide) ?_
          exact g_lv [(0, .ref a1), (1, .int v1), (2, .int x4), (3, .int x6)] [1, 2, 3, 0] rfl (ih v1 x4 x6 hf)
        refine g_icmp_ne (tgt := 26) C dX10_leaves_17 (by decide) (fun c5 => ?_) (fun c5 => ?_)
        · rw [if_neg c5] at ex4
          rw [← ex4] at Kx4
          exact g_lv [(0, .ref a1), (1, .int v1), (2, .int v2), (3, .int v3)] [0, 1, 2, 3] rfl Kx4
        · rw [if_pos c5] at ex4
          refine g_iload_n C 2 dX10_leaves_20 rfl ?_
          refine g_iconst C dX10_leaves_21 (v := 1) (by decide) ?_
          refine g_iload_n C 3 dX10_leaves_22 rfl ?_
          refine g_ishl C dX10_leaves_23 ?_
          refine g_ior C dX10_leaves_24 ?_
          refine g_istore_n C dX10_leaves_25 (by decide) [(2, .int (v2 ||| (j_shl 1 v3))), (0, .ref a1), (1, .int v1), (3, .int v3)] rfl ?_
          rw [← ex4] at Kx4
          exact g_lv [(0, .ref a1), (1, .int v1), (2, .int (v2 ||| (j_shl 1 v3))), (3, .int v3)] [1, 2, 0, 3] rfl Kx4
      rcases hp1.2 with hk | hk | hk | hk | hk
      · exact g_callU C (c_X7_alone l E a1 hp1 h2) cls_0 hp1.1 hk ku_X10_150_0 ⟨rfl, rfl, Nat.le_of_ble_eq_true rfl, Nat.le_of_ble_eq_true rfl⟩ rfl (Nat.le_of_ble_eq_true rfl) dX10_leaves_13 _ rfl Kr3
      · exact g_callU C (c_X7_alone l E a1 hp1 h2) cls_2 hp1.1 hk ku_X10_150_2 ⟨rfl, rfl, Nat.le_of_ble_eq_true rfl, Nat.le_of_ble_eq_true rfl⟩ rfl (Nat.le_of_ble_eq_true rfl) dX10_leaves_13 _ rfl Kr3
      · exact g_callU C (c_X7_alone l E a1 hp1 h2) cls_5 hp1.1 hk ku_X10_150_5 ⟨rfl, rfl, Nat.le_of_ble_eq_true rfl, Nat.le_of_ble_eq_true rfl⟩ rfl (Nat.le_of_ble_eq_true rfl) dX10_leaves_13 _ rfl Kr3
      · exact g_callU C (c_X7_alone l E a1 hp1 h2) cls_6 hp1.1 hk ku_X10_150_6 ⟨rfl, rfl, Nat.le_of_ble_eq_true rfl, Nat.le_of_ble_eq_true rfl⟩ rfl (Nat.le_of_ble_eq_true rfl) dX10_leaves_13 _ rfl Kr3
      · exact g_callU C (c_X7_alone l E a1 hp1 h2) cls_7 hp1.1 hk ku_X10_150_7 ⟨rfl, rfl, Nat.le_of_ble_eq_true rfl, Nat.le_of_ble_eq_true rfl⟩ rfl (Nat.le_of_ble_eq_true rfl) dX10_leaves_13 _ rfl Kr3
set_option maxRecDepth 100000 in
set_option maxHeartbeats 4000000 in
theorem c_X10_leaves (l : Launch) (E : EV) (a1 : Nat) {σ : ST} (hp1 : pv σ a1) {p1 : Int32} {rr : Int32} (hf : f_X10_leaves a1 σ p1 = some rr) : CT l E yX10_leaves cX10_leaves 4 (some .int) rm_X10_leaves [.ref a1, .int p1] σ (some (.int rr)) σ := by
  refine CT.of RX10 rfl (by decide) (Nat.le_of_ble_eq_true rfl) rfl rfl (fun Γ C hR => ?_)
  show GW Γ 4 E σ 0 [(0, .ref a1), (1, .int p1)] []
  rw [f_X10_leaves] at hf
  refine g_iconst C dX10_leaves_0 (v := 0) (by decide) ?_
  refine g_istore_n C dX10_leaves_1 (by decide) [(2, .int 0), (0, .ref a1), (1, .int p1)] rfl ?_
  refine g_iconst C dX10_leaves_2 (v := 0) (by decide) ?_
  refine g_istore_n C dX10_leaves_3 (by decide) [(3, .int 0), (2, .int 0), (0, .ref a1), (1, .int p1)] rfl ?_
  exact g_lv [(0, .ref a1), (1, .int p1), (2, .int 0), (3, .int 0)] [2, 3, 1, 0] rfl (t_X10_leaves_L4 C hR hp1 fuel p1 0 0 hf)
abbrev rm_X10_again : Room := { frames := 4, cells := 0, slots := 0, locals := 101 }
set_option maxRecDepth 100000 in
set_option maxHeartbeats 4000000 in
theorem t_X10_again_L25 {Γ : CX} {l : Launch} {E : EV} {a1 : Nat} {σ : ST} {rr : Int32} (C : FX Γ l cX10_again 6 RX10 rm_X10_again E) (hR : RT Γ (some .int) E (some (.int rr)) σ) (hp1 : pv σ a1) : ∀ (n : Nat) (v2 : Int32) (v3 : Int64) (v5 : Int32), f_X10_again_L25 a1 σ n v2 v3 v5 = some rr → GW Γ 6 E σ 25 [(0, .ref (E.2.1 0)), (1, .ref a1), (2, .int v2), (3, .long v3), (5, .int v5)] [] := by
  intro n
  induction n with
  | zero => intro v2 v3 v5 hf; exact nomatch hf
  | succ n ih =>
    intro v2 v3 v5 hf
    rw [f_X10_again_L25] at hf
    refine g_iload C 4 dX10_again_25 rfl ?_
    refine g_bipush C dX10_again_27 (v := 24) (by decide) ?_
    refine g_icmp_gt (tgt := 60) C dX10_again_29 (by decide) (fun c3 => ?_) (fun c3 => ?_)
    · rw [if_pos c3] at hf
      refine g_iconst C dX10_again_60 (v := (-1)) (by decide) ?_
      exact g_iretR C hR hf dX10_again_61
    · rw [if_neg c3] at hf
      refine g_aload_n C 1 dX10_again_32 rfl ?_
      refine g_lload_n C 3 dX10_again_33 rfl ?_
      refine g_iload_n C 2 dX10_again_34 rfl ?_
      obtain ⟨r5, h4, hf⟩ := o_bind hf
      have Kr5 : GW Γ 6 E σ 38 [(0, .ref (E.2.1 0)), (1, .ref a1), (2, .int v2), (3, .long v3), (5, .int v5)] [.long r5] := by
        refine g_lstore_n C dX10_again_38 (by decide) [(3, .long r5), (0, .ref (E.2.1 0)), (1, .ref a1), (2, .int v2), (5, .int v5)] rfl ?_
        refine g_lload_n C 0 dX10_again_39 rfl ?_
        refine g_aload_n C 1 dX10_again_40 rfl ?_
        refine fg_X10_32_0 C dX10_again_41 ?_
        refine fg_X10_154_6 C dX10_again_44 ?_
        refine g_lcmp_ne (tgt := 54) C dX10_again_47 dX10_again_48 (by decide) (fun c6 => ?_) (fun c6 => ?_)
        · rw [if_neg c6] at hf
          obtain ⟨x7, hx7, hf⟩ := o_let hf
          refine g_iinc C 4 dX10_again_54 rfl hx7 (by decide) [(5, .int x7), (3, .long r5), (0, .ref (E.2.1 0)), (1, .ref a1), (2, .int v2)] rfl ?_
          refine g_goto (tgt := 25) C dX10_again_57 (by decide) ?_
          exact g_lv [(0, .ref (E.2.1 0)), (1, .ref a1), (2, .int v2), (3, .long r5), (5, .int x7)] [2, 3, 4, 1, 0] rfl (ih v2 r5 x7 hf)
        · rw [if_pos c6] at hf
          refine g_iload C 4 dX10_again_51 rfl ?_
          exact g_iretR C hR hf dX10_again_53
      rcases hp1.2 with hk | hk | hk | hk | hk
      · exact g_callU C (c_X7_carry l E a1 hp1 h4) cls_0 hp1.1 hk ku_X10_175_0 ⟨rfl, rfl, Nat.le_of_ble_eq_true rfl, Nat.le_of_ble_eq_true rfl⟩ rfl (Nat.le_of_ble_eq_true rfl) dX10_again_35 _ rfl Kr5
      · exact g_callU C (c_X7_carry l E a1 hp1 h4) cls_2 hp1.1 hk ku_X10_175_2 ⟨rfl, rfl, Nat.le_of_ble_eq_true rfl, Nat.le_of_ble_eq_true rfl⟩ rfl (Nat.le_of_ble_eq_true rfl) dX10_again_35 _ rfl Kr5
      · exact g_callU C (c_X7_carry l E a1 hp1 h4) cls_5 hp1.1 hk ku_X10_175_5 ⟨rfl, rfl, Nat.le_of_ble_eq_true rfl, Nat.le_of_ble_eq_true rfl⟩ rfl (Nat.le_of_ble_eq_true rfl) dX10_again_35 _ rfl Kr5
      · exact g_callU C (c_X7_carry l E a1 hp1 h4) cls_6 hp1.1 hk ku_X10_175_6 ⟨rfl, rfl, Nat.le_of_ble_eq_true rfl, Nat.le_of_ble_eq_true rfl⟩ rfl (Nat.le_of_ble_eq_true rfl) dX10_again_35 _ rfl Kr5
      · exact g_callU C (c_X7_carry l E a1 hp1 h4) cls_7 hp1.1 hk ku_X10_175_7 ⟨rfl, rfl, Nat.le_of_ble_eq_true rfl, Nat.le_of_ble_eq_true rfl⟩ rfl (Nat.le_of_ble_eq_true rfl) dX10_again_35 _ rfl Kr5
set_option maxRecDepth 100000 in
set_option maxHeartbeats 4000000 in
theorem c_X10_again (l : Launch) (E : EV) (a1 : Nat) {σ : ST} (hp1 : pv σ a1) {p1 : Int32} {rr : Int32} (hf : f_X10_again a1 σ p1 = some rr) : CT l E yX10_again cX10_again 6 (some .int) rm_X10_again [.ref (E.2.1 0), .ref a1, .int p1] σ (some (.int rr)) σ := by
  refine CT.of RX10 rfl (by decide) (Nat.le_of_ble_eq_true rfl) rfl rfl (fun Γ C hR => ?_)
  show GW Γ 6 E σ 0 [(0, .ref (E.2.1 0)), (1, .ref a1), (2, .int p1)] []
  rw [f_X10_again] at hf
  refine g_aload_n C 0 dX10_again_0 rfl ?_
  refine fg_X10_32_0 C dX10_again_1 ?_
  refine fg_X10_154_6 C dX10_again_4 ?_
  refine g_lconst C dX10_again_7 (v := 0) (by decide) ?_
  refine g_lcmp_ne (tgt := 14) C dX10_again_8 dX10_again_9 (by decide) (fun c1 => ?_) (fun c1 => ?_)
  · rw [if_neg c1] at hf
    refine g_aload_n C 0 dX10_again_14 rfl ?_
    refine fg_X10_32_0 C dX10_again_15 ?_
    refine fg_X10_154_6 C dX10_again_18 ?_
    obtain ⟨x2, hx2, hf⟩ := o_let hf
    refine g_topl hx2 ?_
    refine g_lstore_n C dX10_again_21 (by decide) [(3, .long x2), (0, .ref (E.2.1 0)), (1, .ref a1), (2, .int p1)] rfl ?_
    refine g_iconst C dX10_again_22 (v := 1) (by decide) ?_
    refine g_istore C dX10_again_23 (by decide) [(5, .int 1), (3, .long x2), (0, .ref (E.2.1 0)), (1, .ref a1), (2, .int p1)] rfl ?_
    exact g_lv [(0, .ref (E.2.1 0)), (1, .ref a1), (2, .int p1), (3, .long x2), (5, .int 1)] [2, 3, 4, 1, 0] rfl (t_X10_again_L25 C hR hp1 fuel p1 x2 1 hf)
  · rw [if_pos c1] at hf
    refine g_iconst C dX10_again_12 (v := (-1)) (by decide) ?_
    exact g_iretR C hR hf dX10_again_13
abbrev rm_X10_tonics : Room := { frames := 5, cells := 0, slots := 0, locals := 121 }
set_option maxRecDepth 100000 in
set_option maxHeartbeats 4000000 in
theorem t_X10_tonics_L5 {Γ : CX} {l : Launch} {E : EV} {a1 : Nat} {σ : ST} {rr : Int32} (C : FX Γ l cX10_tonics 5 RX10 rm_X10_tonics E) (hR : RT Γ (some .int) E (some (.int rr)) σ) (hp1 : pv σ a1) : ∀ (n : Nat) (v2 : Int32) (v3 : Int32) (v4 : Int32), f_X10_tonics_L5 a1 σ n v2 v3 v4 = some rr → GW Γ 5 E σ 5 [(0, .ref (E.2.1 0)), (1, .ref a1), (2, .int v2), (3, .int v3), (4, .int v4)] [] := by
  intro n
  induction n with
  | zero => intro v2 v3 v4 hf; exact nomatch hf
  | succ n ih =>
    intro v2 v3 v4 hf
    rw [f_X10_tonics_L5] at hf
    refine g_iload C 4 dX10_tonics_5 rfl ?_
    refine g_bipush C dX10_tonics_7 (v := 12) (by decide) ?_
    refine g_icmp_ge (tgt := 39) C dX10_tonics_9 (by decide) (fun c1 => ?_) (fun c1 => ?_)
    · rw [if_pos c1] at hf
      refine g_iload_n C 3 dX10_tonics_39 rfl ?_
      exact g_iretR C hR hf dX10_tonics_40
    · rw [if_neg c1] at hf
      refine g_aload_n C 0 dX10_tonics_12 rfl ?_
      refine fg_X10_32_0 C dX10_tonics_13 ?_
      refine g_aload_n C 1 dX10_tonics_16 rfl ?_
      refine g_iload_n C 2 dX10_tonics_17 rfl ?_
      refine g_iload C 4 dX10_tonics_18 rfl ?_
      obtain ⟨r3, h2, hf⟩ := o_bind hf
      refine g_callV C 6 (c_X3_fits l E a1 hp1 h2) cls_3 k_X10_289 ⟨rfl, rfl, Nat.le_of_ble_eq_true rfl, Nat.le_of_ble_eq_true rfl⟩ (by decide) rfl rfl (Nat.le_of_ble_eq_true rfl) dX10_tonics_20 _ rfl ?_
      obtain ⟨x4, ex4, hf⟩ := o_let hf
      have Kx4 : GW Γ 5 E σ 33 [(0, .ref (E.2.1 0)), (1, .ref a1), (2, .int v2), (3, .int x4), (4, .int v4)] [] := by
        obtain ⟨x6, hx6, hf⟩ := o_let hf
        refine g_iinc C 4 dX10_tonics_33 rfl hx6 (by decide) [(4, .int x6), (0, .ref (E.2.1 0)), (1, .ref a1), (2, .int v2), (3, .int x4)] rfl ?_
        refine g_goto (tgt := 5) C dX10_tonics_36 (by decide) ?_
        exact g_lv [(0, .ref (E.2.1 0)), (1, .ref a1), (2, .int v2), (3, .int x4), (4, .int x6)] [1, 2, 3, 4, 0] rfl (ih v2 x4 x6 hf)
      refine g_if_eq (y := 0) (tgt := 33) C dX10_tonics_23 (by decide) (fun c5 => ?_) (fun c5 => ?_)
      · rw [if_pos c5] at ex4
        rw [← ex4] at Kx4
        exact g_lv [(0, .ref (E.2.1 0)), (1, .ref a1), (2, .int v2), (3, .int v3), (4, .int v4)] [0, 1, 2, 3, 4] rfl Kx4
      · rw [if_neg c5] at ex4
        refine g_iload_n C 3 dX10_tonics_26 rfl ?_
        refine g_iconst C dX10_tonics_27 (v := 1) (by decide) ?_
        refine g_iload C 4 dX10_tonics_28 rfl ?_
        refine g_ishl C dX10_tonics_30 ?_
        refine g_ior C dX10_tonics_31 ?_
        refine g_istore_n C dX10_tonics_32 (by decide) [(3, .int (v3 ||| (j_shl 1 v4))), (0, .ref (E.2.1 0)), (1, .ref a1), (2, .int v2), (4, .int v4)] rfl ?_
        rw [← ex4] at Kx4
        exact g_lv [(0, .ref (E.2.1 0)), (1, .ref a1), (2, .int v2), (3, .int (v3 ||| (j_shl 1 v4))), (4, .int v4)] [1, 2, 3, 0, 4] rfl Kx4
set_option maxRecDepth 100000 in
set_option maxHeartbeats 4000000 in
theorem c_X10_tonics (l : Launch) (E : EV) (a1 : Nat) {σ : ST} (hp1 : pv σ a1) {p1 : Int32} {rr : Int32} (hf : f_X10_tonics a1 σ p1 = some rr) : CT l E yX10_tonics cX10_tonics 5 (some .int) rm_X10_tonics [.ref (E.2.1 0), .ref a1, .int p1] σ (some (.int rr)) σ := by
  refine CT.of RX10 rfl (by decide) (Nat.le_of_ble_eq_true rfl) rfl rfl (fun Γ C hR => ?_)
  show GW Γ 5 E σ 0 [(0, .ref (E.2.1 0)), (1, .ref a1), (2, .int p1)] []
  rw [f_X10_tonics] at hf
  refine g_iconst C dX10_tonics_0 (v := 0) (by decide) ?_
  refine g_istore_n C dX10_tonics_1 (by decide) [(3, .int 0), (0, .ref (E.2.1 0)), (1, .ref a1), (2, .int p1)] rfl ?_
  refine g_iconst C dX10_tonics_2 (v := 0) (by decide) ?_
  refine g_istore C dX10_tonics_3 (by decide) [(4, .int 0), (3, .int 0), (0, .ref (E.2.1 0)), (1, .ref a1), (2, .int p1)] rfl ?_
  exact g_lv [(0, .ref (E.2.1 0)), (1, .ref a1), (2, .int p1), (3, .int 0), (4, .int 0)] [2, 3, 4, 1, 0] rfl (t_X10_tonics_L5 C hR hp1 fuel p1 0 0 hf)
abbrev rm_X10_leftAtWorst : Room := { frames := 4, cells := 0, slots := 0, locals := 97 }
set_option maxRecDepth 100000 in
set_option maxHeartbeats 4000000 in
theorem t_X10_leftAtWorst_L8 {Γ : CX} {l : Launch} {E : EV} {a1 : Nat} {σ : ST} {rr : Int32} (C : FX Γ l cX10_leftAtWorst 8 RX10 rm_X10_leftAtWorst E) (hR : RT Γ (some .int) E (some (.int rr)) σ) (hp1 : pv σ a1) : ∀ (n : Nat) (v1 : Int32) (v2 : Int32) (v3 : Int64) (v5 : Int32) (v6 : Int32), f_X10_leftAtWorst_L8 a1 σ n v1 v2 v3 v5 v6 = some rr → GW Γ 8 E σ 8 [(0, .ref a1), (1, .int v1), (2, .int v2), (3, .long v3), (5, .int v5), (6, .int v6)] [] := by
  intro n
  induction n with
  | zero => intro v1 v2 v3 v5 v6 hf; exact nomatch hf
  | succ n ih =>
    intro v1 v2 v3 v5 v6 hf
    rw [f_X10_leftAtWorst_L8] at hf
    refine g_iload C 5 dX10_leftAtWorst_8 rfl ?_
    refine g_bipush C dX10_leftAtWorst_10 (v := 12) (by decide) ?_
    refine g_icmp_ge (tgt := 65) C dX10_leftAtWorst_12 (by decide) (fun c1 => ?_) (fun c1 => ?_)
    · rw [if_pos c1] at hf
      refine g_iload C 4 dX10_leftAtWorst_65 rfl ?_
      exact g_iretR C hR hf dX10_leftAtWorst_67
    · rw [if_neg c1] at hf
      refine g_iload_n C 2 dX10_leftAtWorst_15 rfl ?_
      refine g_iload C 5 dX10_leftAtWorst_16 rfl ?_
      refine g_ishr C dX10_leftAtWorst_18 ?_
      refine g_iconst C dX10_leftAtWorst_19 (v := 1) (by decide) ?_
      refine g_iand C dX10_leftAtWorst_20 ?_
      refine g_iconst C dX10_leftAtWorst_21 (v := 1) (by decide) ?_
      refine g_icmp_ne (tgt := 59) C dX10_leftAtWorst_22 (by decide) (fun c2 => ?_) (fun c2 => ?_)
      · rw [if_neg c2] at hf
        obtain ⟨x3, hx3, hf⟩ := o_let hf
        refine g_iinc C 5 dX10_leftAtWorst_59 rfl hx3 (by decide) [(6, .int x3), (0, .ref a1), (1, .int v1), (2, .int v2), (3, .long v3), (5, .int v5)] rfl ?_
        refine g_goto (tgt := 8) C dX10_leftAtWorst_62 (by decide) ?_
        exact g_lv [(0, .ref a1), (1, .int v1), (2, .int v2), (3, .long v3), (5, .int v5), (6, .int x3)] [1, 2, 3, 4, 5, 0] rfl (ih v1 v2 v3 v5 x3 hf)
      · rw [if_pos c2] at hf
        refine g_iconst C dX10_leftAtWorst_25 (v := 4) (by decide) ?_
        refine g_aload_n C 0 dX10_leftAtWorst_26 rfl ?_
        refine g_iload_n C 1 dX10_leftAtWorst_27 rfl ?_
        refine g_iload C 5 dX10_leftAtWorst_28 rfl ?_
        obtain ⟨r5, h4, hf⟩ := o_bind hf
        have Kr5 : GW Γ 8 E σ 33 [(0, .ref a1), (1, .int v1), (2, .int v2), (3, .long v3), (5, .int v5), (6, .int v6)] [.int r5, .int 4] := by
          refine g_imul C dX10_leftAtWorst_33 ?_
          obtain ⟨x6, hx6, hf⟩ := o_let hf
          refine g_topi hx6 ?_
          refine g_istore C dX10_leftAtWorst_34 (by decide) [(7, .int x6), (0, .ref a1), (1, .int v1), (2, .int v2), (3, .long v3), (5, .int v5), (6, .int v6)] rfl ?_
          refine g_lload_n C 4 dX10_leftAtWorst_36 rfl ?_
          refine g_lconst C dX10_leftAtWorst_37 (v := 1) (by decide) ?_
          refine g_iload C 0 dX10_leftAtWorst_38 rfl ?_
          refine g_lshl C dX10_leftAtWorst_40 ?_
          refine g_ladd C dX10_leftAtWorst_41 ?_
          obtain ⟨x7, hx7, hf⟩ := o_let hf
          refine g_topl hx7 ?_
          refine g_lstore_n C dX10_leftAtWorst_42 (by decide) [(3, .long x7), (7, .int x6), (0, .ref a1), (1, .int v1), (2, .int v2), (5, .int v5), (6, .int v6)] rfl ?_
          refine g_iload C 5 dX10_leftAtWorst_43 rfl ?_
          refine g_lload_n C 0 dX10_leftAtWorst_45 rfl ?_
          refine g_iload C 1 dX10_leftAtWorst_46 rfl ?_
          refine g_lushr C dX10_leftAtWorst_48 ?_
          refine g_ldc2 C dX10_leftAtWorst_49 (v := 15) kl_X10_297 ?_
          refine g_land C dX10_leftAtWorst_52 ?_
          refine g_l2i C dX10_leftAtWorst_53 ?_
          refine g_mmax C dX10_leftAtWorst_54 mk_X10_299 (Nat.le_of_ble_eq_true rfl) (Nat.le_of_ble_eq_true rfl) ?_
          obtain ⟨x8, hx8, hf⟩ := o_let hf
          refine g_topi hx8 ?_
          refine g_istore C dX10_leftAtWorst_57 (by decide) [(5, .int x8), (3, .long x7), (7, .int x6), (0, .ref a1), (1, .int v1), (2, .int v2), (6, .int v6)] rfl ?_
          obtain ⟨x9, hx9, hf⟩ := o_let hf
          refine g_iinc C 6 dX10_leftAtWorst_59 rfl hx9 (by decide) [(6, .int x9), (5, .int x8), (3, .long x7), (7, .int x6), (0, .ref a1), (1, .int v1), (2, .int v2)] rfl ?_
          refine g_goto (tgt := 8) C dX10_leftAtWorst_62 (by decide) ?_
          exact g_lv [(0, .ref a1), (1, .int v1), (2, .int v2), (3, .long x7), (5, .int x8), (6, .int x9)] [4, 5, 6, 2, 1, 0] rfl (ih v1 v2 x7 x8 x9 hf)
        rcases hp1.2 with hk | hk | hk | hk | hk
        · exact g_callU C (c_X7_alone l E a1 hp1 h4) cls_0 hp1.1 hk ku_X10_150_0 ⟨rfl, rfl, Nat.le_of_ble_eq_true rfl, Nat.le_of_ble_eq_true rfl⟩ rfl (Nat.le_of_ble_eq_true rfl) dX10_leftAtWorst_30 _ rfl Kr5
        · exact g_callU C (c_X7_alone l E a1 hp1 h4) cls_2 hp1.1 hk ku_X10_150_2 ⟨rfl, rfl, Nat.le_of_ble_eq_true rfl, Nat.le_of_ble_eq_true rfl⟩ rfl (Nat.le_of_ble_eq_true rfl) dX10_leftAtWorst_30 _ rfl Kr5
        · exact g_callU C (c_X7_alone l E a1 hp1 h4) cls_5 hp1.1 hk ku_X10_150_5 ⟨rfl, rfl, Nat.le_of_ble_eq_true rfl, Nat.le_of_ble_eq_true rfl⟩ rfl (Nat.le_of_ble_eq_true rfl) dX10_leftAtWorst_30 _ rfl Kr5
        · exact g_callU C (c_X7_alone l E a1 hp1 h4) cls_6 hp1.1 hk ku_X10_150_6 ⟨rfl, rfl, Nat.le_of_ble_eq_true rfl, Nat.le_of_ble_eq_true rfl⟩ rfl (Nat.le_of_ble_eq_true rfl) dX10_leftAtWorst_30 _ rfl Kr5
        · exact g_callU C (c_X7_alone l E a1 hp1 h4) cls_7 hp1.1 hk ku_X10_150_7 ⟨rfl, rfl, Nat.le_of_ble_eq_true rfl, Nat.le_of_ble_eq_true rfl⟩ rfl (Nat.le_of_ble_eq_true rfl) dX10_leftAtWorst_30 _ rfl Kr5
set_option maxRecDepth 100000 in
set_option maxHeartbeats 4000000 in
theorem c_X10_leftAtWorst (l : Launch) (E : EV) (a1 : Nat) {σ : ST} (hp1 : pv σ a1) {p1 : Int32} {p2 : Int32} {rr : Int32} (hf : f_X10_leftAtWorst a1 σ p1 p2 = some rr) : CT l E yX10_leftAtWorst cX10_leftAtWorst 8 (some .int) rm_X10_leftAtWorst [.ref a1, .int p1, .int p2] σ (some (.int rr)) σ := by
  refine CT.of RX10 rfl (by decide) (Nat.le_of_ble_eq_true rfl) rfl rfl (fun Γ C hR => ?_)
  show GW Γ 8 E σ 0 [(0, .ref a1), (1, .int p1), (2, .int p2)] []
  rw [f_X10_leftAtWorst] at hf
  refine g_lconst C dX10_leftAtWorst_0 (v := 0) (by decide) ?_
  refine g_lstore_n C dX10_leftAtWorst_1 (by decide) [(3, .long 0), (0, .ref a1), (1, .int p1), (2, .int p2)] rfl ?_
  refine g_iconst C dX10_leftAtWorst_2 (v := 0) (by decide) ?_
  refine g_istore C dX10_leftAtWorst_3 (by decide) [(5, .int 0), (3, .long 0), (0, .ref a1), (1, .int p1), (2, .int p2)] rfl ?_
  refine g_iconst C dX10_leftAtWorst_5 (v := 0) (by decide) ?_
  refine g_istore C dX10_leftAtWorst_6 (by decide) [(6, .int 0), (5, .int 0), (3, .long 0), (0, .ref a1), (1, .int p1), (2, .int p2)] rfl ?_
  exact g_lv [(0, .ref a1), (1, .int p1), (2, .int p2), (3, .long 0), (5, .int 0), (6, .int 0)] [3, 4, 5, 2, 1, 0] rfl (t_X10_leftAtWorst_L8 C hR hp1 fuel p1 p2 0 0 0 hf)
abbrev rm_X10_ask : Room := { frames := 5, cells := 0, slots := 0, locals := 124 }
set_option maxRecDepth 100000 in
set_option maxHeartbeats 4000000 in
theorem t_X10_ask_L14 {Γ : CX} {l : Launch} {E : EV} {a1 : Nat} {σ : ST} {rr : Int32} (C : FX Γ l cX10_ask 6 RX10 rm_X10_ask E) (hR : RT Γ (some .int) E (some (.int rr)) σ) (hp1 : pv σ a1) : ∀ (n : Nat) (v1 : Int32) (v2 : Int32) (v3 : Int32) (v4 : Int32), f_X10_ask_L14 a1 σ n v1 v2 v3 v4 = some rr → GW Γ 6 E σ 14 [(0, .ref a1), (1, .int v1), (2, .int v2), (3, .int v3), (4, .int v4)] [] := by
  intro n
  induction n with
  | zero => intro v1 v2 v3 v4 hf; exact nomatch hf
  | succ n ih =>
    intro v1 v2 v3 v4 hf
    rw [f_X10_ask_L14] at hf
    refine g_iload C 4 dX10_ask_14 rfl ?_
    refine g_bipush C dX10_ask_16 (v := 12) (by decide) ?_
    refine g_icmp_ge (tgt := 48) C dX10_ask_18 (by decide) (fun c2 => ?_) (fun c2 => ?_)
    · rw [if_pos c2] at hf
      refine g_iload_n C 2 dX10_ask_48 rfl ?_
      exact g_iretR C hR hf dX10_ask_49
    · rw [if_neg c2] at hf
      refine g_aload_n C 0 dX10_ask_21 rfl ?_
      refine g_iload C 4 dX10_ask_22 rfl ?_
      refine g_iload_n C 1 dX10_ask_24 rfl ?_
      obtain ⟨r4, h3, hf⟩ := o_bind hf
      refine g_callS C (c_X10_leftAtWorst l E a1 hp1 h3) k_X10_293 ⟨rfl, rfl, Nat.le_of_ble_eq_true rfl, Nat.le_of_ble_eq_true rfl⟩ rfl (Nat.le_of_ble_eq_true rfl) dX10_ask_25 _ rfl ?_
      refine g_istore C dX10_ask_28 (by decide) [(5, .int r4), (0, .ref a1), (1, .int v1), (2, .int v2), (3, .int v3), (4, .int v4)] rfl ?_
      refine g_iload C 0 dX10_ask_30 rfl ?_
      refine g_iload_n C 4 dX10_ask_32 rfl ?_
      refine g_icmp_ge (tgt := 42) C dX10_ask_33 (by decide) (fun c5 => ?_) (fun c5 => ?_)
      · rw [if_pos c5] at hf
        obtain ⟨x6, hx6, hf⟩ := o_let hf
        refine g_iinc C 5 dX10_ask_42 rfl hx6 (by decide) [(4, .int x6), (5, .int r4), (0, .ref a1), (1, .int v1), (2, .int v2), (3, .int v3)] rfl ?_
        refine g_goto (tgt := 14) C dX10_ask_45 (by decide) ?_
        exact g_lv [(0, .ref a1), (1, .int v1), (2, .int v2), (3, .int v3), (4, .int x6)] [2, 3, 4, 5, 0] rfl (ih v1 v2 v3 x6 hf)
      · rw [if_neg c5] at hf
        refine g_iload C 0 dX10_ask_36 rfl ?_
        refine g_istore_n C dX10_ask_38 (by decide) [(3, .int r4), (5, .int r4), (0, .ref a1), (1, .int v1), (2, .int v2), (4, .int v4)] rfl ?_
        refine g_iload C 5 dX10_ask_39 rfl ?_
        refine g_istore_n C dX10_ask_41 (by decide) [(2, .int v4), (3, .int r4), (5, .int r4), (0, .ref a1), (1, .int v1), (4, .int v4)] rfl ?_
        obtain ⟨x7, hx7, hf⟩ := o_let hf
        refine g_iinc C 5 dX10_ask_42 rfl hx7 (by decide) [(4, .int x7), (2, .int v4), (3, .int r4), (5, .int r4), (0, .ref a1), (1, .int v1)] rfl ?_
        refine g_goto (tgt := 14) C dX10_ask_45 (by decide) ?_
        exact g_lv [(0, .ref a1), (1, .int v1), (2, .int v4), (3, .int r4), (4, .int x7)] [4, 5, 1, 2, 0] rfl (ih v1 v4 r4 x7 hf)
set_option maxRecDepth 100000 in
set_option maxHeartbeats 4000000 in
theorem c_X10_ask (l : Launch) (E : EV) (a1 : Nat) {σ : ST} (hp1 : pv σ a1) {p1 : Int32} {rr : Int32} (hf : f_X10_ask a1 σ p1 = some rr) : CT l E yX10_ask cX10_ask 6 (some .int) rm_X10_ask [.ref a1, .int p1] σ (some (.int rr)) σ := by
  refine CT.of RX10 rfl (by decide) (Nat.le_of_ble_eq_true rfl) rfl rfl (fun Γ C hR => ?_)
  show GW Γ 6 E σ 0 [(0, .ref a1), (1, .int p1)] []
  rw [f_X10_ask] at hf
  refine g_iload_n C 1 dX10_ask_0 rfl ?_
  refine g_if_ne (y := 0) (tgt := 6) C dX10_ask_1 (by decide) (fun c1 => ?_) (fun c1 => ?_)
  · rw [if_neg c1] at hf
    refine g_iconst C dX10_ask_6 (v := (-1)) (by decide) ?_
    refine g_istore_n C dX10_ask_7 (by decide) [(2, .int (-1)), (0, .ref a1), (1, .int p1)] rfl ?_
    refine g_bipush C dX10_ask_8 (v := 13) (by decide) ?_
    refine g_istore_n C dX10_ask_10 (by decide) [(3, .int 13), (2, .int (-1)), (0, .ref a1), (1, .int p1)] rfl ?_
    refine g_iconst C dX10_ask_11 (v := 0) (by decide) ?_
    refine g_istore C dX10_ask_12 (by decide) [(4, .int 0), (3, .int 13), (2, .int (-1)), (0, .ref a1), (1, .int p1)] rfl ?_
    exact g_lv [(0, .ref a1), (1, .int p1), (2, .int (-1)), (3, .int 13), (4, .int 0)] [3, 4, 2, 1, 0] rfl (t_X10_ask_L14 C hR hp1 fuel p1 (-1) 13 0 hf)
  · rw [if_pos c1] at hf
    refine g_iconst C dX10_ask_4 (v := (-1)) (by decide) ?_
    exact g_iretR C hR hf dX10_ask_5
abbrev rm_X10_letter : Room := { frames := 1, cells := 0, slots := 0, locals := 21 }
set_option maxRecDepth 100000 in
set_option maxHeartbeats 4000000 in
theorem c_X10_letter (l : Launch) (E : EV) {σ ss : ST} {p0 : Int32} {rr : Int32} (hf : f_X10_letter p0 σ = some (rr, ss)) : CT l E yX10_letter cX10_letter 2 (some .int) rm_X10_letter [.ref (E.2.1 0), .int p0] σ (some (.int rr)) ss := by
  refine CT.of RX10 rfl (by decide) (Nat.le_of_ble_eq_true rfl) rfl rfl (fun Γ C hR => ?_)
  show GW Γ 2 E σ 0 [(0, .ref (E.2.1 0)), (1, .int p0)] []
  rw [f_X10_letter] at hf
  refine g_iload_n C 1 dX10_letter_0 rfl ?_
  refine g_iconst C dX10_letter_1 (v := 1) (by decide) ?_
  refine g_icmp_lt (tgt := 11) C dX10_letter_2 (by decide) (fun c1 => ?_) (fun c1 => ?_)
  · rw [if_pos c1] at hf
    refine g_bipush C dX10_letter_11 (v := (-102)) (by decide) ?_
    exact g_iretW C hR hf dX10_letter_13
  · rw [if_neg c1] at hf
    refine g_iload_n C 1 dX10_letter_5 rfl ?_
    refine g_bipush C dX10_letter_6 (v := 126) (by decide) ?_
    refine g_icmp_le (tgt := 14) C dX10_letter_8 (by decide) (fun c2 => ?_) (fun c2 => ?_)
    · rw [if_pos c2] at hf
      refine g_aload_n C 0 dX10_letter_14 rfl ?_
      refine fg_X10_10_0 C dX10_letter_15 ?_
      refine fg_X10_39_1 C dX10_letter_18 ?_
      refine g_bipush C dX10_letter_21 (v := 44) (by decide) ?_
      refine g_icmp_lt (tgt := 29) C dX10_letter_23 (by decide) (fun c3 => ?_) (fun c3 => ?_)
      · rw [if_pos c3] at hf
        refine g_aload_n C 0 dX10_letter_29 rfl ?_
        refine fg_X10_10_0 C dX10_letter_30 ?_
        refine g_iload_n C 1 dX10_letter_33 rfl ?_
        obtain ⟨σ5, h4, hf⟩ := o_bind hf
        refine g_callV C 1 (c_X4_add l E h4) cls_4 k_X10_43 ⟨rfl, rfl, Nat.le_of_ble_eq_true rfl, Nat.le_of_ble_eq_true rfl⟩ (by decide) rfl rfl (Nat.le_of_ble_eq_true rfl) dX10_letter_34 _ rfl ?_
        refine g_aload_n C 0 dX10_letter_37 rfl ?_
        refine fg_X10_10_0 C dX10_letter_38 ?_
        refine fg_X10_39_1 C dX10_letter_41 ?_
        exact g_iretW C hR hf dX10_letter_44
      · rw [if_neg c3] at hf
        refine g_bipush C dX10_letter_26 (v := (-104)) (by decide) ?_
        exact g_iretW C hR hf dX10_letter_28
    · rw [if_neg c2] at hf
      refine g_bipush C dX10_letter_11 (v := (-102)) (by decide) ?_
      exact g_iretW C hR hf dX10_letter_13
abbrev rm_X10_blank : Room := { frames := 0, cells := 0, slots := 0, locals := 0 }
set_option maxRecDepth 100000 in
set_option maxHeartbeats 4000000 in
theorem c_X10_blank (l : Launch) (E : EV) {σ ss : ST} {rr : Int32} (hf : f_X10_blank σ = some (rr, ss)) : CT l E yX10_blank cX10_blank 2 (some .int) rm_X10_blank [.ref (E.2.1 0)] σ (some (.int rr)) ss := by
  refine CT.of RX10 rfl (by decide) (Nat.le_of_ble_eq_true rfl) rfl rfl (fun Γ C hR => ?_)
  show GW Γ 2 E σ 0 [(0, .ref (E.2.1 0))] []
  rw [f_X10_blank] at hf
  refine g_aload_n C 0 dX10_blank_0 rfl ?_
  refine fg_X10_10_0 C dX10_blank_1 ?_
  refine fg_X10_39_1 C dX10_blank_4 ?_
  obtain ⟨x1, hx1, hf⟩ := o_let hf
  refine g_topi hx1 ?_
  refine g_istore_n C dX10_blank_7 (by decide) [(1, .int x1), (0, .ref (E.2.1 0))] rfl ?_
  refine g_aload_n C 1 dX10_blank_8 rfl ?_
  refine fg_X10_10_0 C dX10_blank_9 ?_
  refine g_iconst C dX10_blank_12 (v := 0) (by decide) ?_
  obtain ⟨σ2, hσ2, hf⟩ := o_let hf
  refine fp_X10_39_1 C dX10_blank_13 hσ2 ?_
  refine g_iload_n C 0 dX10_blank_16 rfl ?_
  exact g_iretW C hR hf dX10_blank_17
abbrev rm_X10_fault : Room := { frames := 6, cells := 0, slots := 0, locals := 133 }
set_option maxRecDepth 100000 in
set_option maxHeartbeats 4000000 in
theorem c_X10_fault (l : Launch) (E : EV) {σ : ST} {rr : Int32} (hf : f_X10_fault σ = some rr) : CT l E yX10_fault cX10_fault 1 (some .int) rm_X10_fault [.ref (E.2.1 0)] σ (some (.int rr)) σ := by
  refine CT.of RX10 rfl (by decide) (Nat.le_of_ble_eq_true rfl) rfl rfl (fun Γ C hR => ?_)
  show GW Γ 1 E σ 0 [(0, .ref (E.2.1 0))] []
  rw [f_X10_fault] at hf
  refine g_aload_n C 0 dX10_fault_0 rfl ?_
  refine fg_X10_10_0 C dX10_fault_1 ?_
  obtain ⟨r2, h1, hf⟩ := o_bind hf
  refine g_callV C 1 (c_X4_firstFault l E h1) cls_4 k_X10_47 ⟨rfl, rfl, Nat.le_of_ble_eq_true rfl, Nat.le_of_ble_eq_true rfl⟩ (by decide) rfl rfl (Nat.le_of_ble_eq_true rfl) dX10_fault_4 _ rfl ?_
  exact g_iretR C hR hf dX10_fault_7
abbrev rm_X10_tune : Room := { frames := 3, cells := 0, slots := 0, locals := 67 }
set_option maxRecDepth 100000 in
set_option maxHeartbeats 4000000 in
theorem t_X10_tune_B12 {Γ : CX} {l : Launch} {E : EV} {rr : Int32} {ss : ST} (C : FX Γ l cX10_tune 4 RX10 rm_X10_tune E) (hR : RT Γ (some .int) E (some (.int rr)) ss) (v1 : Int32) (σ : ST) (hf : f_X10_tune_B12 v1 σ = some (rr, ss)) : GW Γ 4 E σ 12 [(0, .ref (E.2.1 0)), (1, .int v1)] [] := by
  rw [f_X10_tune_B12] at hf
  refine g_aload_n C 0 dX10_tune_12 rfl ?_
  refine fg_X10_10_0 C dX10_tune_13 ?_
  obtain ⟨r3, h2, hf⟩ := o_bind hf
  refine g_callV C 1 (c_X4_asTune l E h2) cls_4 k_X10_71 ⟨rfl, rfl, Nat.le_of_ble_eq_true rfl, Nat.le_of_ble_eq_true rfl⟩ (by decide) rfl rfl (Nat.le_of_ble_eq_true rfl) dX10_tune_16 _ rfl ?_
  refine g_lstore_n C dX10_tune_19 (by decide) [(2, .long r3), (0, .ref (E.2.1 0)), (1, .int v1)] rfl ?_
  refine g_lload_n C 0 dX10_tune_20 rfl ?_
  refine g_lconst C dX10_tune_21 (v := 0) (by decide) ?_
  refine g_lcmp_ne (tgt := 29) C dX10_tune_22 dX10_tune_23 (by decide) (fun c4 => ?_) (fun c4 => ?_)
  · rw [if_neg c4] at hf
    refine g_aload_n C 1 dX10_tune_29 rfl ?_
    refine fg_X10_32_0 C dX10_tune_30 ?_
    refine g_iload_n C 2 dX10_tune_33 rfl ?_
    refine g_lload_n C 0 dX10_tune_34 rfl ?_
    obtain ⟨σ6, h5, hf⟩ := o_bind hf
    refine g_callV C 6 (c_X3_setTune l E h5) cls_3 k_X10_75 ⟨rfl, rfl, Nat.le_of_ble_eq_true rfl, Nat.le_of_ble_eq_true rfl⟩ (by decide) rfl rfl (Nat.le_of_ble_eq_true rfl) dX10_tune_35 _ rfl ?_
    refine g_aload_n C 1 dX10_tune_38 rfl ?_
    refine fg_X10_10_0 C dX10_tune_39 ?_
    refine g_iconst C dX10_tune_42 (v := 0) (by decide) ?_
    obtain ⟨σ7, hσ7, hf⟩ := o_let hf
    refine fp_X10_39_1 C dX10_tune_43 hσ7 ?_
    refine g_lload_n C 0 dX10_tune_46 rfl ?_
    obtain ⟨r9, h8, hf⟩ := o_bind hf
    refine g_callS C (c_X8_length l E h8) k_X10_79 ⟨rfl, rfl, Nat.le_of_ble_eq_true rfl, Nat.le_of_ble_eq_true rfl⟩ rfl (Nat.le_of_ble_eq_true rfl) dX10_tune_47 _ rfl ?_
    exact g_iretW C hR hf dX10_tune_50
  · rw [if_pos c4] at hf
    refine g_bipush C dX10_tune_26 (v := (-103)) (by decide) ?_
    exact g_iretW C hR hf dX10_tune_28
set_option maxRecDepth 100000 in
set_option maxHeartbeats 4000000 in
theorem c_X10_tune (l : Launch) (E : EV) {σ ss : ST} {p0 : Int32} {rr : Int32} (hf : f_X10_tune p0 σ = some (rr, ss)) : CT l E yX10_tune cX10_tune 4 (some .int) rm_X10_tune [.ref (E.2.1 0), .int p0] σ (some (.int rr)) ss := by
  refine CT.of RX10 rfl (by decide) (Nat.le_of_ble_eq_true rfl) rfl rfl (fun Γ C hR => ?_)
  show GW Γ 4 E σ 0 [(0, .ref (E.2.1 0)), (1, .int p0)] []
  rw [f_X10_tune] at hf
  refine g_iload_n C 1 dX10_tune_0 rfl ?_
  refine g_if_eq (y := 0) (tgt := 12) C dX10_tune_1 (by decide) (fun c1 => ?_) (fun c1 => ?_)
  · rw [if_pos c1] at hf
    exact t_X10_tune_B12 C hR p0 σ hf
  · rw [if_neg c1] at hf
    refine g_iload_n C 1 dX10_tune_4 rfl ?_
    refine g_iconst C dX10_tune_5 (v := 1) (by decide) ?_
    refine g_icmp_eq (tgt := 12) C dX10_tune_6 (by decide) (fun c10 => ?_) (fun c10 => ?_)
    · rw [if_pos c10] at hf
      exact t_X10_tune_B12 C hR p0 σ hf
    · rw [if_neg c10] at hf
      refine g_bipush C dX10_tune_9 (v := (-101)) (by decide) ?_
      exact g_iretW C hR hf dX10_tune_11
abbrev rm_X10_told : Room := { frames := 4, cells := 0, slots := 0, locals := 96 }
set_option maxRecDepth 100000 in
set_option maxHeartbeats 4000000 in
theorem c_X10_told (l : Launch) (E : EV) {σ : ST} {p0 : Int32} {p1 : Int32} {rr : Int32} (hf : f_X10_told σ p0 p1 = some rr) : CT l E yX10_told cX10_told 5 (some .int) rm_X10_told [.ref (E.2.1 0), .int p0, .int p1] σ (some (.int rr)) σ := by
  refine CT.of RX10 rfl (by decide) (Nat.le_of_ble_eq_true rfl) rfl rfl (fun Γ C hR => ?_)
  show GW Γ 5 E σ 0 [(0, .ref (E.2.1 0)), (1, .int p0), (2, .int p1)] []
  rw [f_X10_told] at hf
  refine g_aload_n C 0 dX10_told_0 rfl ?_
  refine fg_X10_32_0 C dX10_told_1 ?_
  refine g_iload_n C 1 dX10_told_4 rfl ?_
  obtain ⟨r2, h1, hf⟩ := o_bind hf
  refine g_callV C 6 (c_X3_tuneOf l E h1) cls_3 k_X10_84 ⟨rfl, rfl, Nat.le_of_ble_eq_true rfl, Nat.le_of_ble_eq_true rfl⟩ (by decide) rfl rfl (Nat.le_of_ble_eq_true rfl) dX10_told_5 _ rfl ?_
  refine g_lstore_n C dX10_told_8 (by decide) [(3, .long r2), (0, .ref (E.2.1 0)), (1, .int p0), (2, .int p1)] rfl ?_
  refine g_lload_n C 0 dX10_told_9 rfl ?_
  refine g_lconst C dX10_told_10 (v := 0) (by decide) ?_
  refine g_lcmp_ne (tgt := 18) C dX10_told_11 dX10_told_12 (by decide) (fun c3 => ?_) (fun c3 => ?_)
  · rw [if_neg c3] at hf
    refine g_iload_n C 3 dX10_told_18 rfl ?_
    by_cases c4 : p1 = 0
    · rw [if_pos c4] at hf
      refine g_tabIn C 0 (tgt := 52) dX10_told_19 c4 (by decide) (by decide) rfl (by decide) ?_
      refine g_lload_n C 0 dX10_told_52 rfl ?_
      obtain ⟨r6, h5, hf⟩ := o_bind hf
      refine g_callS C (c_X8_length l E h5) k_X10_79 ⟨rfl, rfl, Nat.le_of_ble_eq_true rfl, Nat.le_of_ble_eq_true rfl⟩ rfl (Nat.le_of_ble_eq_true rfl) dX10_told_53 _ rfl ?_
      exact g_iretR C hR hf dX10_told_56
    rw [if_neg c4] at hf
    by_cases c7 : p1 = 1
    · rw [if_pos c7] at hf
      refine g_tabIn C 1 (tgt := 57) dX10_told_19 c7 (by decide) (by decide) rfl (by decide) ?_
      refine g_lload_n C 0 dX10_told_57 rfl ?_
      obtain ⟨r9, h8, hf⟩ := o_bind hf
      refine g_callS C (c_X8_tritones l E h8) k_X10_88 ⟨rfl, rfl, Nat.le_of_ble_eq_true rfl, Nat.le_of_ble_eq_true rfl⟩ rfl (Nat.le_of_ble_eq_true rfl) dX10_told_58 _ rfl ?_
      exact g_iretR C hR hf dX10_told_61
    rw [if_neg c7] at hf
    by_cases c10 : p1 = 2
    · rw [if_pos c10] at hf
      refine g_tabIn C 2 (tgt := 62) dX10_told_19 c10 (by decide) (by decide) rfl (by decide) ?_
      refine g_lload_n C 0 dX10_told_62 rfl ?_
      obtain ⟨r12, h11, hf⟩ := o_bind hf
      refine g_callS C (c_X8_key l E h11) k_X10_91 ⟨rfl, rfl, Nat.le_of_ble_eq_true rfl, Nat.le_of_ble_eq_true rfl⟩ rfl (Nat.le_of_ble_eq_true rfl) dX10_told_63 _ rfl ?_
      exact g_iretR C hR hf dX10_told_66
    rw [if_neg c10] at hf
    by_cases c13 : p1 = 3
    · rw [if_pos c13] at hf
      refine g_tabIn C 3 (tgt := 67) dX10_told_19 c13 (by decide) (by decide) rfl (by decide) ?_
      refine g_lload_n C 0 dX10_told_67 rfl ?_
      refine g_lload_n C 0 dX10_told_68 rfl ?_
      obtain ⟨r15, h14, hf⟩ := o_bind hf
      refine g_callS C (c_X8_key l E h14) k_X10_91 ⟨rfl, rfl, Nat.le_of_ble_eq_true rfl, Nat.le_of_ble_eq_true rfl⟩ rfl (Nat.le_of_ble_eq_true rfl) dX10_told_69 _ rfl ?_
      obtain ⟨r17, h16, hf⟩ := o_bind hf
      refine g_callS C (c_X8_inKey l E h16) k_X10_94 ⟨rfl, rfl, Nat.le_of_ble_eq_true rfl, Nat.le_of_ble_eq_true rfl⟩ rfl (Nat.le_of_ble_eq_true rfl) dX10_told_72 _ rfl ?_
      exact g_iretR C hR hf dX10_told_75
    rw [if_neg c13] at hf
    by_cases c18 : p1 = 4
    · rw [if_pos c18] at hf
      refine g_tabIn C 4 (tgt := 76) dX10_told_19 c18 (by decide) (by decide) rfl (by decide) ?_
      refine g_lload_n C 0 dX10_told_76 rfl ?_
      obtain ⟨r20, h19, hf⟩ := o_bind hf
      refine g_callS C (c_X8_bits l E h19) k_X10_98 ⟨rfl, rfl, Nat.le_of_ble_eq_true rfl, Nat.le_of_ble_eq_true rfl⟩ rfl (Nat.le_of_ble_eq_true rfl) dX10_told_77 _ rfl ?_
      exact g_iretR C hR hf dX10_told_80
    rw [if_neg c18] at hf
    refine g_tabOut (tgt := 81) C dX10_told_19 (by have qc4 := lv_neT c4 (show (0 : Int32).toInt = 0 by decide); have qc7 := lv_neT c7 (show (1 : Int32).toInt = 1 by decide); have qc10 := lv_neT c10 (show (2 : Int32).toInt = 2 by decide); have qc13 := lv_neT c13 (show (3 : Int32).toInt = 3 by decide); have qc18 := lv_neT c18 (show (4 : Int32).toInt = 4 by decide); omega) (by decide) ?_
    refine g_iload_n C 3 dX10_told_81 rfl ?_
    refine g_bipush C dX10_told_82 (v := 10) (by decide) ?_
    refine g_icmp_lt (tgt := 104) C dX10_told_84 (by decide) (fun c21 => ?_) (fun c21 => ?_)
    · rw [if_pos c21] at hf
      refine g_bipush C dX10_told_104 (v := (-102)) (by decide) ?_
      exact g_iretR C hR hf dX10_told_106
    · rw [if_neg c21] at hf
      refine g_iload_n C 3 dX10_told_87 rfl ?_
      refine g_bipush C dX10_told_88 (v := 18) (by decide) ?_
      refine g_icmp_ge (tgt := 104) C dX10_told_90 (by decide) (fun c22 => ?_) (fun c22 => ?_)
      · rw [if_pos c22] at hf
        refine g_bipush C dX10_told_104 (v := (-102)) (by decide) ?_
        exact g_iretR C hR hf dX10_told_106
      · rw [if_neg c22] at hf
        refine g_lload_n C 0 dX10_told_93 rfl ?_
        refine g_iload_n C 3 dX10_told_94 rfl ?_
        refine g_bipush C dX10_told_95 (v := 10) (by decide) ?_
        refine g_isub C dX10_told_97 ?_
        obtain ⟨r24, h23, hf⟩ := o_bind hf
        refine g_callS C (c_X8_note l E h23) k_X10_101 ⟨rfl, rfl, Nat.le_of_ble_eq_true rfl, Nat.le_of_ble_eq_true rfl⟩ rfl (Nat.le_of_ble_eq_true rfl) dX10_told_98 _ rfl ?_
        refine g_goto (tgt := 106) C dX10_told_101 (by decide) ?_
        exact g_iretR C hR hf dX10_told_106
  · rw [if_pos c3] at hf
    refine g_bipush C dX10_told_15 (v := (-101)) (by decide) ?_
    exact g_iretR C hR hf dX10_told_17
