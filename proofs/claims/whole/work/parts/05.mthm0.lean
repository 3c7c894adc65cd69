abbrev rm_X11_in : Room := { frames := 0, cells := 0, slots := 0, locals := 0 }
set_option maxRecDepth 100000 in
set_option maxHeartbeats 4000000 in
theorem c_X11_in (l : Launch) (E : EV) {σ : ST} {p0 : Int64} {p1 : Int64} {p2 : Int64} {rr : Int32} (hf : f_X11_in p0 p1 p2 = some rr) : CT l E yX11_in cX11_in 6 (some .boolean) rm_X11_in [.long p0, .long p1, .long p2] σ (some (.int rr)) σ := by
  refine CT.of RX11 rfl (by decide) (Nat.le_of_ble_eq_true rfl) rfl rfl (fun Γ C hR => ?_)
  show GW Γ 6 E σ 0 [(0, .long p0), (2, .long p1), (4, .long p2)] []
  rw [f_X11_in] at hf
  refine g_lload_n C 0 dX11_in_0 rfl ?_
  refine g_lload_n C 1 dX11_in_1 rfl ?_
  refine g_lcmp_lt (tgt := 17) C dX11_in_2 dX11_in_3 (by decide) (fun c1 => ?_) (fun c1 => ?_)
  · rw [if_pos c1] at hf
    refine g_iconst C dX11_in_17 (v := 0) (by decide) ?_
    exact g_zretR C hR hf (by decide) dX11_in_18
  · rw [if_neg c1] at hf
    refine g_lload_n C 0 dX11_in_6 rfl ?_
    refine g_lload C 2 dX11_in_7 rfl ?_
    refine g_lcmp_gt (tgt := 17) C dX11_in_9 dX11_in_10 (by decide) (fun c2 => ?_) (fun c2 => ?_)
    · rw [if_pos c2] at hf
      refine g_iconst C dX11_in_17 (v := 0) (by decide) ?_
      exact g_zretR C hR hf (by decide) dX11_in_18
    · rw [if_neg c2] at hf
      refine g_iconst C dX11_in_13 (v := 1) (by decide) ?_
      refine g_goto (tgt := 18) C dX11_in_14 (by decide) ?_
      exact g_zretR C hR hf (by decide) dX11_in_18
abbrev rm_X11_copy : Room := { frames := 0, cells := 0, slots := 0, locals := 0 }
set_option maxRecDepth 100000 in
set_option maxHeartbeats 4000000 in
theorem t_X11_copy_L2 {Γ : CX} {l : Launch} {E : EV} {o0 : Nat} {n0 : Nat} {o1 : Nat} {n1 : Nat} {ss : ST} (C : FX Γ l cX11_copy 3 RX11 rm_X11_copy E) (hR : RT Γ none E none ss) (hA0 : ARY o0 n0) (hA1 : ARY o1 n1) : ∀ (n : Nat) (v2 : Int32) (σ : ST), f_X11_copy_L2 o0 n0 o1 n1 n v2 σ = some ss → GW Γ 3 E σ 2 [(0, .ref (E.2.1 o0)), (1, .ref (E.2.1 o1)), (2, .int v2)] [] := by
  intro n
  induction n with
  | zero => intro v2 σ hf; exact nomatch hf
  | succ n ih =>
    intro v2 σ hf
    rw [f_X11_copy_L2] at hf
    refine g_iload_n C 2 dX11_copy_2 rfl ?_
    refine g_aload_n C 0 dX11_copy_3 rfl ?_
    refine g_alenA C hA0 dX11_copy_4 (v := Int32.ofNat n0) rfl ?_
    refine g_icmp_ge (tgt := 20) C dX11_copy_5 (by decide) (fun c1 => ?_) (fun c1 => ?_)
    · rw [if_pos c1] at hf
      exact g_vretW C hR hf dX11_copy_20
    · rw [if_neg c1] at hf
      refine g_aload_n C 1 dX11_copy_8 rfl ?_
      refine g_iload_n C 2 dX11_copy_9 rfl ?_
      refine g_aload_n C 0 dX11_copy_10 rfl ?_
      refine g_iload_n C 2 dX11_copy_11 rfl ?_
      obtain ⟨h2, hf⟩ := o_if hf
      refine g_ald C hA0 dX11_copy_12 (k := v2.toNatClampNeg) rfl h2 ?_
      obtain ⟨h4, hf⟩ := o_if hf
      obtain ⟨σ3, hσ3, hf⟩ := o_let hf
      refine g_ast C hA1 dX11_copy_13 (k := v2.toNatClampNeg) rfl h4 hσ3 ?_
      obtain ⟨x5, hx5, hf⟩ := o_let hf
      refine g_iinc C 2 dX11_copy_14 rfl hx5 (by decide) [(2, .int x5), (0, .ref (E.2.1 o0)), (1, .ref (E.2.1 o1))] rfl ?_
      refine g_goto (tgt := 2) C dX11_copy_17 (by decide) ?_
      exact g_lv [(0, .ref (E.2.1 o0)), (1, .ref (E.2.1 o1)), (2, .int x5)] [1, 2, 0] rfl (ih x5 σ3 hf)
set_option maxRecDepth 100000 in
set_option maxHeartbeats 4000000 in
theorem c_X11_copy (l : Launch) (E : EV) (o0 : Nat) (n0 : Nat) (o1 : Nat) (n1 : Nat) {σ ss : ST} (hA0 : ARY o0 n0) (hA1 : ARY o1 n1) (hf : f_X11_copy o0 n0 o1 n1 σ = some ss) : CT l E yX11_copy cX11_copy 3 none rm_X11_copy [.ref (E.2.1 o0), .ref (E.2.1 o1)] σ none ss := by
  refine CT.of RX11 rfl (by decide) (Nat.le_of_ble_eq_true rfl) rfl rfl (fun Γ C hR => ?_)
  show GW Γ 3 E σ 0 [(0, .ref (E.2.1 o0)), (1, .ref (E.2.1 o1))] []
  rw [f_X11_copy] at hf
  refine g_iconst C dX11_copy_0 (v := 0) (by decide) ?_
  refine g_istore_n C dX11_copy_1 (by decide) [(2, .int 0), (0, .ref (E.2.1 o0)), (1, .ref (E.2.1 o1))] rfl ?_
  exact g_lv [(0, .ref (E.2.1 o0)), (1, .ref (E.2.1 o1)), (2, .int 0)] [1, 2, 0] rfl (t_X11_copy_L2 C hR hA0 hA1 fuel 0 σ hf)
abbrev rm_X11_above : Room := { frames := 0, cells := 0, slots := 0, locals := 0 }
set_option maxRecDepth 100000 in
set_option maxHeartbeats 4000000 in
theorem c_X11_above (l : Launch) (E : EV) {σ : ST} {p0 : Int32} {p1 : Int32} {rr : Int32} (hf : f_X11_above p0 p1 = some rr) : CT l E yX11_above cX11_above 2 (some .int) rm_X11_above [.int p0, .int p1] σ (some (.int rr)) σ := by
  refine CT.of RX11 rfl (by decide) (Nat.le_of_ble_eq_true rfl) rfl rfl (fun Γ C hR => ?_)
  show GW Γ 2 E σ 0 [(0, .int p0), (1, .int p1)] []
  rw [f_X11_above] at hf
  refine g_iload_n C 0 dX11_above_0 rfl ?_
  refine g_iload_n C 1 dX11_above_1 rfl ?_
  refine g_isub C dX11_above_2 ?_
  refine g_bipush C dX11_above_3 (v := 24) (by decide) ?_
  refine g_iadd C dX11_above_5 ?_
  refine g_bipush C dX11_above_6 (v := 12) (by decide) ?_
  refine g_irem C dX11_above_8 (by decide) ?_
  exact g_iretR C hR hf dX11_above_9
abbrev rm_X11_letter : Room := { frames := 1, cells := 0, slots := 0, locals := 25 }
set_option maxRecDepth 100000 in
set_option maxHeartbeats 4000000 in
theorem c_X11_letter (l : Launch) (E : EV) {σ ss : ST} {p0 : Int32} {rr : Int32} (hf : f_X11_letter p0 σ = some (rr, ss)) : CT l E yX11_letter cX11_letter 2 (some .int) rm_X11_letter [.ref (E.2.1 20), .int p0] σ (some (.int rr)) ss := by
  refine CT.of RX11 rfl (by decide) (Nat.le_of_ble_eq_true rfl) rfl rfl (fun Γ C hR => ?_)
  show GW Γ 2 E σ 0 [(0, .ref (E.2.1 20)), (1, .int p0)] []
  rw [f_X11_letter] at hf
  refine g_iload_n C 1 dX11_letter_0 rfl ?_
  refine g_i2l C dX11_letter_1 ?_
  refine g_lconst C dX11_letter_2 (v := 1) (by decide) ?_
  refine g_ldc2 C dX11_letter_3 (v := 126) kl_X11_71 ?_
  obtain ⟨r2, h1, hf⟩ := o_bind hf
  refine g_callS C (c_X11_in l E h1) k_X11_73 ⟨rfl, rfl, Nat.le_of_ble_eq_true rfl, Nat.le_of_ble_eq_true rfl⟩ rfl (Nat.le_of_ble_eq_true rfl) dX11_letter_6 _ rfl ?_
  refine g_if_ne (y := 0) (tgt := 15) C dX11_letter_9 (by decide) (fun c3 => ?_) (fun c3 => ?_)
  · rw [if_neg c3] at hf
    refine g_aload_n C 0 dX11_letter_15 rfl ?_
    refine fg_X11_77_20 C dX11_letter_16 ?_
    refine g_bipush C dX11_letter_19 (v := 44) (by decide) ?_
    refine g_icmp_ne (tgt := 27) C dX11_letter_21 (by decide) (fun c4 => ?_) (fun c4 => ?_)
    · rw [if_neg c4] at hf
      refine g_aload_n C 0 dX11_letter_27 rfl ?_
      refine fg_X11_7_20 C dX11_letter_28 ?_
      refine g_aload_n C 0 dX11_letter_31 rfl ?_
      refine fg_X11_77_20 C dX11_letter_32 ?_
      refine g_iload_n C 1 dX11_letter_35 rfl ?_
      obtain ⟨h6, hf⟩ := o_if hf
      obtain ⟨σ5, hσ5, hf⟩ := o_let hf
      refine g_ast C ar_21 dX11_letter_36 (k := (σ.1 20 1).toNatClampNeg) rfl h6 hσ5 ?_
      refine g_aload_n C 0 dX11_letter_37 rfl ?_
      refine g_dup C dX11_letter_38 rfl ?_
      refine fg_X11_77_20 C dX11_letter_39 ?_
      refine g_iconst C dX11_letter_42 (v := 1) (by decide) ?_
      refine g_iadd C dX11_letter_43 ?_
      obtain ⟨σ7, hσ7, hf⟩ := o_let hf
      refine fp_X11_77_20 C dX11_letter_44 hσ7 ?_
      refine g_aload_n C 0 dX11_letter_47 rfl ?_
      refine fg_X11_77_20 C dX11_letter_48 ?_
      exact g_iretW C hR hf dX11_letter_51
    · rw [if_pos c4] at hf
      refine g_bipush C dX11_letter_24 (v := (-104)) (by decide) ?_
      exact g_iretW C hR hf dX11_letter_26
  · rw [if_pos c3] at hf
    refine g_bipush C dX11_letter_12 (v := (-102)) (by decide) ?_
    exact g_iretW C hR hf dX11_letter_14
abbrev rm_X11_blank : Room := { frames := 0, cells := 0, slots := 0, locals := 0 }
set_option maxRecDepth 100000 in
set_option maxHeartbeats 4000000 in
theorem c_X11_blank (l : Launch) (E : EV) {σ ss : ST} {rr : Int32} (hf : f_X11_blank σ = some (rr, ss)) : CT l E yX11_blank cX11_blank 2 (some .int) rm_X11_blank [.ref (E.2.1 20)] σ (some (.int rr)) ss := by
  refine CT.of RX11 rfl (by decide) (Nat.le_of_ble_eq_true rfl) rfl rfl (fun Γ C hR => ?_)
  show GW Γ 2 E σ 0 [(0, .ref (E.2.1 20))] []
  rw [f_X11_blank] at hf
  refine g_aload_n C 0 dX11_blank_0 rfl ?_
  refine fg_X11_77_20 C dX11_blank_1 ?_
  obtain ⟨x1, hx1, hf⟩ := o_let hf
  refine g_topi hx1 ?_
  refine g_istore_n C dX11_blank_4 (by decide) [(1, .int x1), (0, .ref (E.2.1 20))] rfl ?_
  refine g_aload_n C 1 dX11_blank_5 rfl ?_
  refine g_iconst C dX11_blank_6 (v := 0) (by decide) ?_
  obtain ⟨σ2, hσ2, hf⟩ := o_let hf
  refine fp_X11_77_20 C dX11_blank_7 hσ2 ?_
  refine g_iload_n C 0 dX11_blank_10 rfl ?_
  exact g_iretW C hR hf dX11_blank_11
abbrev rm_X11_kindBy : Room := { frames := 0, cells := 0, slots := 0, locals := 0 }
set_option maxRecDepth 100000 in
set_option maxHeartbeats 4000000 in
theorem c_X11_kindBy (l : Launch) (E : EV) {σ : ST} {p0 : Int32} {rr : Int32} (hf : f_X11_kindBy p0 = some rr) : CT l E yX11_kindBy cX11_kindBy 1 (some .int) rm_X11_kindBy [.int p0] σ (some (.int rr)) σ := by
  refine CT.of RX11 rfl (by decide) (Nat.le_of_ble_eq_true rfl) rfl rfl (fun Γ C hR => ?_)
  show GW Γ 1 E σ 0 [(0, .int p0)] []
  rw [f_X11_kindBy] at hf
  refine g_iload_n C 0 dX11_kindBy_0 rfl ?_
  by_cases c1 : p0 = 98
  · rw [if_pos c1] at hf
    refine g_lookup (tgt := 56) C dX11_kindBy_1 (by decide) (show Op.lookupswitch.offset _ _ _ = 55 by rw [c1]; decide) (by decide) ?_
    refine g_iconst C dX11_kindBy_56 (v := 2) (by decide) ?_
    exact g_iretR C hR hf dX11_kindBy_57
  rw [if_neg c1] at hf
  by_cases c2 : p0 = 105
  · rw [if_pos c2] at hf
    refine g_lookup (tgt := 60) C dX11_kindBy_1 (by decide) (show Op.lookupswitch.offset _ _ _ = 59 by rw [c2]; decide) (by decide) ?_
    refine g_iconst C dX11_kindBy_60 (v := 4) (by decide) ?_
    exact g_iretR C hR hf dX11_kindBy_61
  rw [if_neg c2] at hf
  by_cases c3 : p0 = 109
  · rw [if_pos c3] at hf
    refine g_lookup (tgt := 54) C dX11_kindBy_1 (by decide) (show Op.lookupswitch.offset _ _ _ = 53 by rw [c3]; decide) (by decide) ?_
    refine g_iconst C dX11_kindBy_54 (v := 1) (by decide) ?_
    exact g_iretR C hR hf dX11_kindBy_55
  rw [if_neg c3] at hf
  by_cases c4 : p0 = 112
  · rw [if_pos c4] at hf
    refine g_lookup (tgt := 58) C dX11_kindBy_1 (by decide) (show Op.lookupswitch.offset _ _ _ = 57 by rw [c4]; decide) (by decide) ?_
    refine g_iconst C dX11_kindBy_58 (v := 3) (by decide) ?_
    exact g_iretR C hR hf dX11_kindBy_59
  rw [if_neg c4] at hf
  by_cases c5 : p0 = 115
  · rw [if_pos c5] at hf
    refine g_lookup (tgt := 52) C dX11_kindBy_1 (by decide) (show Op.lookupswitch.offset _ _ _ = 51 by rw [c5]; decide) (by decide) ?_
    refine g_iconst C dX11_kindBy_52 (v := 0) (by decide) ?_
    exact g_iretR C hR hf dX11_kindBy_53
  rw [if_neg c5] at hf
  refine g_lookup (tgt := 62) C dX11_kindBy_1 (by decide) (show Op.lookupswitch.offset _ _ _ = 61 by show Op.lookupswitch.offset [(98, 55), (105, 59), (109, 53), (112, 57), (115, 51)] _ _ = _; rw [lv_osw c1 (by decide)]; rw [lv_osw c2 (by decide)]; rw [lv_osw c3 (by decide)]; rw [lv_osw c4 (by decide)]; rw [lv_osw c5 (by decide)]; rfl) (by decide) ?_
  refine g_iconst C dX11_kindBy_62 (v := (-1)) (by decide) ?_
  exact g_iretR C hR hf dX11_kindBy_63
abbrev rm_X11_isCorner : Room := { frames := 1, cells := 0, slots := 0, locals := 25 }
set_option maxRecDepth 100000 in
set_option maxHeartbeats 4000000 in
theorem c_X11_isCorner (l : Launch) (E : EV) {σ : ST} {p0 : Int32} {rr : Int32} (hf : f_X11_isCorner σ p0 = some rr) : CT l E yX11_isCorner cX11_isCorner 2 (some .boolean) rm_X11_isCorner [.ref (E.2.1 20), .int p0] σ (some (.int rr)) σ := by
  refine CT.of RX11 rfl (by decide) (Nat.le_of_ble_eq_true rfl) rfl rfl (fun Γ C hR => ?_)
  show GW Γ 2 E σ 0 [(0, .ref (E.2.1 20)), (1, .int p0)] []
  rw [f_X11_isCorner] at hf
  refine g_iload_n C 1 dX11_isCorner_0 rfl ?_
  refine g_i2l C dX11_isCorner_1 ?_
  refine g_ldc2 C dX11_isCorner_2 (v := 48) kl_X11_80 ?_
  refine g_aload_n C 0 dX11_isCorner_5 rfl ?_
  refine fg_X11_7_20 C dX11_isCorner_6 ?_
  refine g_iconst C dX11_isCorner_9 (v := 0) (by decide) ?_
  refine g_ald C ar_21 dX11_isCorner_10 (k := 0) (by decide) (by decide) ?_
  refine g_iconst C dX11_isCorner_11 (v := 1) (by decide) ?_
  refine g_isub C dX11_isCorner_12 ?_
  refine g_i2l C dX11_isCorner_13 ?_
  obtain ⟨r2, h1, hf⟩ := o_bind hf
  refine g_callS C (c_X11_in l E h1) k_X11_73 ⟨rfl, rfl, Nat.le_of_ble_eq_true rfl, Nat.le_of_ble_eq_true rfl⟩ rfl (Nat.le_of_ble_eq_true rfl) dX11_isCorner_14 _ rfl ?_
  obtain ⟨hz, hf⟩ := o_if hf
  exact g_zretR C hR hf hz dX11_isCorner_17
abbrev rm_X11_isStreetLetter : Room := { frames := 2, cells := 0, slots := 0, locals := 46 }
set_option maxRecDepth 100000 in
set_option maxHeartbeats 4000000 in
theorem c_X11_isStreetLetter (l : Launch) (E : EV) {σ : ST} {p0 : Int32} {rr : Int32} (hf : f_X11_isStreetLetter σ p0 = some rr) : CT l E yX11_isStreetLetter cX11_isStreetLetter 3 (some .boolean) rm_X11_isStreetLetter [.ref (E.2.1 20), .int p0] σ (some (.int rr)) σ := by
  refine CT.of RX11 rfl (by decide) (Nat.le_of_ble_eq_true rfl) rfl rfl (fun Γ C hR => ?_)
  show GW Γ 3 E σ 0 [(0, .ref (E.2.1 20)), (1, .int p0)] []
  rw [f_X11_isStreetLetter] at hf
  refine g_aload_n C 0 dX11_isStreetLetter_0 rfl ?_
  refine fg_X11_7_20 C dX11_isStreetLetter_1 ?_
  refine g_iload_n C 1 dX11_isStreetLetter_4 rfl ?_
  obtain ⟨h1, hf⟩ := o_if hf
  refine g_ald C ar_21 dX11_isStreetLetter_5 (k := p0.toNatClampNeg) rfl h1 ?_
  obtain ⟨x2, hx2, hf⟩ := o_let hf
  refine g_topi hx2 ?_
  refine g_istore_n C dX11_isStreetLetter_6 (by decide) [(2, .int x2), (0, .ref (E.2.1 20)), (1, .int p0)] rfl ?_
  refine g_iload_n C 2 dX11_isStreetLetter_7 rfl ?_
  refine g_iconst C dX11_isStreetLetter_8 (v := 2) (by decide) ?_
  refine g_isub C dX11_isStreetLetter_9 ?_
  refine g_iconst C dX11_isStreetLetter_10 (v := 5) (by decide) ?_
  refine g_irem C dX11_isStreetLetter_11 (by decide) ?_
  by_cases c3 : (j_rem (p0 - 2) 5) = 0
  · rw [if_pos c3] at hf
    refine g_tabIn C 0 (tgt := 44) dX11_isStreetLetter_12 c3 (by decide) (by decide) rfl (by decide) ?_
    refine g_iload_n C 0 dX11_isStreetLetter_44 rfl ?_
    obtain ⟨r5, h4, hf⟩ := o_bind hf
    refine g_callS C (c_X11_kindBy l E h4) k_X11_82 ⟨rfl, rfl, Nat.le_of_ble_eq_true rfl, Nat.le_of_ble_eq_true rfl⟩ rfl (Nat.le_of_ble_eq_true rfl) dX11_isStreetLetter_45 _ rfl ?_
    refine g_iconst C dX11_isStreetLetter_48 (v := (-1)) (by decide) ?_
    refine g_icmp_eq (tgt := 56) C dX11_isStreetLetter_49 (by decide) (fun c6 => ?_) (fun c6 => ?_)
    · rw [if_pos c6] at hf
      refine g_iconst C dX11_isStreetLetter_56 (v := 0) (by decide) ?_
      exact g_zretR C hR hf (by decide) dX11_isStreetLetter_57
    · rw [if_neg c6] at hf
      refine g_iconst C dX11_isStreetLetter_52 (v := 1) (by decide) ?_
      refine g_goto (tgt := 57) C dX11_isStreetLetter_53 (by decide) ?_
      exact g_zretR C hR hf (by decide) dX11_isStreetLetter_57
  rw [if_neg c3] at hf
  by_cases c7 : (j_rem (p0 - 2) 5) = 1
  · rw [if_pos c7] at hf
    refine g_tabIn C 1 (tgt := 58) dX11_isStreetLetter_12 c7 (by decide) (by decide) rfl (by decide) ?_
    refine g_aload_n C 1 dX11_isStreetLetter_58 rfl ?_
    refine g_iload_n C 0 dX11_isStreetLetter_59 rfl ?_
    obtain ⟨r9, h8, hf⟩ := o_bind hf
    refine g_callV C 20 (c_X11_isCorner l E h8) cls_10 k_X11_86 ⟨rfl, rfl, Nat.le_of_ble_eq_true rfl, Nat.le_of_ble_eq_true rfl⟩ (by decide) rfl rfl (Nat.le_of_ble_eq_true rfl) dX11_isStreetLetter_60 _ rfl ?_
    obtain ⟨hz, hf⟩ := o_if hf
    exact g_zretR C hR hf hz dX11_isStreetLetter_63
  rw [if_neg c7] at hf
  by_cases c10 : (j_rem (p0 - 2) 5) = 2
  · rw [if_pos c10] at hf
    refine g_tabIn C 2 (tgt := 64) dX11_isStreetLetter_12 c10 (by decide) (by decide) rfl (by decide) ?_
    refine g_aload_n C 1 dX11_isStreetLetter_64 rfl ?_
    refine g_iload_n C 0 dX11_isStreetLetter_65 rfl ?_
    obtain ⟨r12, h11, hf⟩ := o_bind hf
    refine g_callV C 20 (c_X11_isCorner l E h11) cls_10 k_X11_86 ⟨rfl, rfl, Nat.le_of_ble_eq_true rfl, Nat.le_of_ble_eq_true rfl⟩ (by decide) rfl rfl (Nat.le_of_ble_eq_true rfl) dX11_isStreetLetter_66 _ rfl ?_
    refine g_if_eq (y := 0) (tgt := 88) C dX11_isStreetLetter_69 (by decide) (fun c13 => ?_) (fun c13 => ?_)
    · rw [if_pos c13] at hf
      refine g_iconst C dX11_isStreetLetter_88 (v := 0) (by decide) ?_
      exact g_zretR C hR hf (by decide) dX11_isStreetLetter_89
    · rw [if_neg c13] at hf
      refine g_iload_n C 0 dX11_isStreetLetter_72 rfl ?_
      refine g_aload_n C 1 dX11_isStreetLetter_73 rfl ?_
      refine fg_X11_7_20 C dX11_isStreetLetter_74 ?_
      refine g_iload_n C 2 dX11_isStreetLetter_77 rfl ?_
      refine g_iconst C dX11_isStreetLetter_78 (v := 1) (by decide) ?_
      refine g_isub C dX11_isStreetLetter_79 ?_
      obtain ⟨h14, hf⟩ := o_if hf
      refine g_ald C ar_21 dX11_isStreetLetter_80 (k := (p0 - 1).toNatClampNeg) rfl h14 ?_
      refine g_icmp_eq (tgt := 88) C dX11_isStreetLetter_81 (by decide) (fun c15 => ?_) (fun c15 => ?_)
      · rw [if_pos c15] at hf
        refine g_iconst C dX11_isStreetLetter_88 (v := 0) (by decide) ?_
        exact g_zretR C hR hf (by decide) dX11_isStreetLetter_89
      · rw [if_neg c15] at hf
        refine g_iconst C dX11_isStreetLetter_84 (v := 1) (by decide) ?_
        refine g_goto (tgt := 89) C dX11_isStreetLetter_85 (by decide) ?_
        exact g_zretR C hR hf (by decide) dX11_isStreetLetter_89
  rw [if_neg c10] at hf
  by_cases c16 : (j_rem (p0 - 2) 5) = 3
  · rw [if_pos c16] at hf
    refine g_tabIn C 3 (tgt := 90) dX11_isStreetLetter_12 c16 (by decide) (by decide) rfl (by decide) ?_
    refine g_iload_n C 0 dX11_isStreetLetter_90 rfl ?_
    refine g_i2l C dX11_isStreetLetter_91 ?_
    refine g_ldc2 C dX11_isStreetLetter_92 (v := 97) kl_X11_90 ?_
    refine g_ldc2 C dX11_isStreetLetter_95 (v := 108) kl_X11_92 ?_
    obtain ⟨r18, h17, hf⟩ := o_bind hf
    refine g_callS C (c_X11_in l E h17) k_X11_73 ⟨rfl, rfl, Nat.le_of_ble_eq_true rfl, Nat.le_of_ble_eq_true rfl⟩ rfl (Nat.le_of_ble_eq_true rfl) dX11_isStreetLetter_98 _ rfl ?_
    obtain ⟨hz, hf⟩ := o_if hf
    exact g_zretR C hR hf hz dX11_isStreetLetter_101
  rw [if_neg c16] at hf
  refine g_tabOut (tgt := 102) C dX11_isStreetLetter_12 (by have qc3 := lv_neT c3 (show (0 : Int32).toInt = 0 by decide); have qc7 := lv_neT c7 (show (1 : Int32).toInt = 1 by decide); have qc10 := lv_neT c10 (show (2 : Int32).toInt = 2 by decide); have qc16 := lv_neT c16 (show (3 : Int32).toInt = 3 by decide); omega) (by decide) ?_
  refine g_iload_n C 0 dX11_isStreetLetter_102 rfl ?_
  refine g_bipush C dX11_isStreetLetter_103 (v := 44) (by decide) ?_
  refine g_icmp_ne (tgt := 118) C dX11_isStreetLetter_105 (by decide) (fun c19 => ?_) (fun c19 => ?_)
  · rw [if_neg c19] at hf
    refine g_iconst C dX11_isStreetLetter_118 (v := 0) (by decide) ?_
    exact g_zretR C hR hf (by decide) dX11_isStreetLetter_119
  · rw [if_pos c19] at hf
    refine g_iload_n C 2 dX11_isStreetLetter_108 rfl ?_
    refine g_bipush C dX11_isStreetLetter_109 (v := 41) (by decide) ?_
    refine g_icmp_ge (tgt := 118) C dX11_isStreetLetter_111 (by decide) (fun c20 => ?_) (fun c20 => ?_)
    · rw [if_pos c20] at hf
      refine g_iconst C dX11_isStreetLetter_118 (v := 0) (by decide) ?_
      exact g_zretR C hR hf (by decide) dX11_isStreetLetter_119
    · rw [if_neg c20] at hf
      refine g_iconst C dX11_isStreetLetter_114 (v := 1) (by decide) ?_
      refine g_goto (tgt := 119) C dX11_isStreetLetter_115 (by decide) ?_
      exact g_zretR C hR hf (by decide) dX11_isStreetLetter_119
abbrev rm_X11_faultOf : Room := { frames := 3, cells := 0, slots := 0, locals := 68 }
set_option maxRecDepth 100000 in
set_option maxHeartbeats 4000000 in
theorem t_X11_faultOf_B68 {Γ : CX} {l : Launch} {E : EV} {σ : ST} {rr : Int32} (k_4 : Int32 → Int32 → Option (Int32)) (C : FX Γ l cX11_faultOf 3 RX11 rm_X11_faultOf E) (hR : RT Γ (some .int) E (some (.int rr)) σ) (hk_4 : ∀ (v1 : Int32) (v2 : Int32), k_4 v1 v2 = some rr → GW Γ 3 E σ 4 [(0, .ref (E.2.1 20)), (1, .int v1), (2, .int v2)] []) (v1 : Int32) (s0 : Int32) (hf : f_X11_faultOf_B68 σ k_4 v1 s0 = some rr) : GW Γ 3 E σ 68 [(0, .ref (E.2.1 20)), (1, .int v1)] [.int s0] := by
  rw [f_X11_faultOf_B68] at hf
  refine g_istore_n C dX11_faultOf_68 (by decide) [(2, .int s0), (0, .ref (E.2.1 20)), (1, .int v1)] rfl ?_
  refine g_iload_n C 2 dX11_faultOf_69 rfl ?_
  refine g_iload_n C 0 dX11_faultOf_70 rfl ?_
  obtain ⟨x11, ex11, hf⟩ := o_let hf
  have Kx11 : GW Γ 3 E σ 79 [(0, .ref (E.2.1 20)), (2, .int s0)] [.int x11, .int v1] := by
    refine g_iadd C dX11_faultOf_79 ?_
    obtain ⟨x13, hx13, hf⟩ := o_let hf
    refine g_topi hx13 ?_
    refine g_istore_n C dX11_faultOf_80 (by decide) [(1, .int x13), (0, .ref (E.2.1 20)), (2, .int s0)] rfl ?_
    refine g_goto (tgt := 4) C dX11_faultOf_81 (by decide) ?_
    exact g_lv [(0, .ref (E.2.1 20)), (1, .int x13), (2, .int s0)] [1, 0, 2] rfl (hk_4 x13 s0 hf)
  refine g_if_eq (y := 0) (tgt := 78) C dX11_faultOf_71 (by decide) (fun c12 => ?_) (fun c12 => ?_)
  · rw [if_pos c12] at ex11
    refine g_iconst C dX11_faultOf_78 (v := 0) (by decide) ?_
    rw [← ex11] at Kx11
    exact g_lv [(0, .ref (E.2.1 20)), (2, .int s0)] [1, 0] rfl Kx11
  · rw [if_neg c12] at ex11
    refine g_iconst C dX11_faultOf_74 (v := 1) (by decide) ?_
    refine g_goto (tgt := 79) C dX11_faultOf_75 (by decide) ?_
    rw [← ex11] at Kx11
    exact g_lv [(0, .ref (E.2.1 20)), (2, .int s0)] [1, 0] rfl Kx11
set_option maxRecDepth 100000 in
set_option maxHeartbeats 4000000 in
theorem t_X11_faultOf_L4 {Γ : CX} {l : Launch} {E : EV} {σ : ST} {rr : Int32} (C : FX Γ l cX11_faultOf 3 RX11 rm_X11_faultOf E) (hR : RT Γ (some .int) E (some (.int rr)) σ) : ∀ (n : Nat) (v1 : Int32) (v2 : Int32), f_X11_faultOf_L4 σ n v1 v2 = some rr → GW Γ 3 E σ 4 [(0, .ref (E.2.1 20)), (1, .int v1), (2, .int v2)] [] := by
  intro n
  induction n with
  | zero => intro v1 v2 hf; exact nomatch hf
  | succ n ih =>
    intro v1 v2 hf
    rw [f_X11_faultOf_L4] at hf
    refine g_iload_n C 1 dX11_faultOf_4 rfl ?_
    refine g_aload_n C 0 dX11_faultOf_5 rfl ?_
    refine fg_X11_77_20 C dX11_faultOf_6 ?_
    refine g_icmp_ge (tgt := 84) C dX11_faultOf_9 (by decide) (fun c1 => ?_) (fun c1 => ?_)
    · rw [if_pos c1] at hf
      refine g_iload_n C 1 dX11_faultOf_84 rfl ?_
      exact g_iretR C hR hf dX11_faultOf_85
    · rw [if_neg c1] at hf
      refine g_iload_n C 2 dX11_faultOf_12 rfl ?_
      refine g_if_eq (y := 0) (tgt := 84) C dX11_faultOf_13 (by decide) (fun c2 => ?_) (fun c2 => ?_)
      · rw [if_pos c2] at hf
        refine g_iload_n C 1 dX11_faultOf_84 rfl ?_
        exact g_iretR C hR hf dX11_faultOf_85
      · rw [if_neg c2] at hf
        refine g_iload_n C 1 dX11_faultOf_16 rfl ?_
        obtain ⟨x3, ex3, hf⟩ := o_bind hf
        have Kx3 : GW Γ 3 E σ 68 [(0, .ref (E.2.1 20)), (1, .int v1)] [.int x3] := by
          exact t_X11_faultOf_B68 ((f_X11_faultOf_L4 σ n)) C hR ih v1 x3 hf
        refine g_if_ne (y := 0) (tgt := 39) C dX11_faultOf_17 (by decide) (fun c4 => ?_) (fun c4 => ?_)
        · rw [if_neg c4] at ex3
          refine g_iload_n C 1 dX11_faultOf_39 rfl ?_
          refine g_iconst C dX11_faultOf_40 (v := 1) (by decide) ?_
          refine g_icmp_ne (tgt := 63) C dX11_faultOf_41 (by decide) (fun c5 => ?_) (fun c5 => ?_)
          · rw [if_neg c5] at ex3
            refine g_aload_n C 0 dX11_faultOf_63 rfl ?_
            refine g_iload_n C 1 dX11_faultOf_64 rfl ?_
            obtain ⟨r7, h6, ex3⟩ := o_bind ex3
            refine g_callV C 20 (c_X11_isStreetLetter l E h6) cls_10 k_X11_98 ⟨rfl, rfl, Nat.le_of_ble_eq_true rfl, Nat.le_of_ble_eq_true rfl⟩ (by decide) rfl rfl (Nat.le_of_ble_eq_true rfl) dX11_faultOf_65 _ rfl ?_
            rw [← Option.some.inj ex3] at Kx3
            exact g_lv [(0, .ref (E.2.1 20)), (1, .int v1)] [0, 1] rfl Kx3
          · rw [if_pos c5] at ex3
            refine g_aload_n C 0 dX11_faultOf_44 rfl ?_
            refine fg_X11_7_20 C dX11_faultOf_45 ?_
            refine g_iconst C dX11_faultOf_48 (v := 1) (by decide) ?_
            refine g_ald C ar_21 dX11_faultOf_49 (k := 1) (by decide) (by decide) ?_
            refine g_bipush C dX11_faultOf_50 (v := 59) (by decide) ?_
            refine g_icmp_ne (tgt := 59) C dX11_faultOf_52 (by decide) (fun c8 => ?_) (fun c8 => ?_)
            · rw [if_neg c8] at ex3
              refine g_iconst C dX11_faultOf_59 (v := 0) (by decide) ?_
              refine g_goto (tgt := 68) C dX11_faultOf_60 (by decide) ?_
              rw [← Option.some.inj ex3] at Kx3
              exact g_lv [(0, .ref (E.2.1 20)), (1, .int v1)] [0, 1] rfl Kx3
            · rw [if_pos c8] at ex3
              refine g_iconst C dX11_faultOf_55 (v := 1) (by decide) ?_
              refine g_goto (tgt := 68) C dX11_faultOf_56 (by decide) ?_
              rw [← Option.some.inj ex3] at Kx3
              exact g_lv [(0, .ref (E.2.1 20)), (1, .int v1)] [0, 1] rfl Kx3
        · rw [if_pos c4] at ex3
          refine g_aload_n C 0 dX11_faultOf_20 rfl ?_
          refine fg_X11_7_20 C dX11_faultOf_21 ?_
          refine g_iconst C dX11_faultOf_24 (v := 0) (by decide) ?_
          refine g_ald C ar_21 dX11_faultOf_25 (k := 0) (by decide) (by decide) ?_
          refine g_i2l C dX11_faultOf_26 ?_
          refine g_ldc2 C dX11_faultOf_27 (v := 50) kl_X11_94 ?_
          refine g_ldc2 C dX11_faultOf_30 (v := 53) kl_X11_96 ?_
          obtain ⟨r10, h9, ex3⟩ := o_bind ex3
          refine g_callS C (c_X11_in l E h9) k_X11_73 ⟨rfl, rfl, Nat.le_of_ble_eq_true rfl, Nat.le_of_ble_eq_true rfl⟩ rfl (Nat.le_of_ble_eq_true rfl) dX11_faultOf_33 _ rfl ?_
          refine g_goto (tgt := 68) C dX11_faultOf_36 (by decide) ?_
          rw [← Option.some.inj ex3] at Kx3
          exact g_lv [(0, .ref (E.2.1 20)), (1, .int v1)] [0, 1] rfl Kx3
set_option maxRecDepth 100000 in
set_option maxHeartbeats 4000000 in
theorem c_X11_faultOf (l : Launch) (E : EV) {σ : ST} {rr : Int32} (hf : f_X11_faultOf σ = some rr) : CT l E yX11_faultOf cX11_faultOf 3 (some .int) rm_X11_faultOf [.ref (E.2.1 20)] σ (some (.int rr)) σ := by
  refine CT.of RX11 rfl (by decide) (Nat.le_of_ble_eq_true rfl) rfl rfl (fun Γ C hR => ?_)
  show GW Γ 3 E σ 0 [(0, .ref (E.2.1 20))] []
  rw [f_X11_faultOf] at hf
  refine g_iconst C dX11_faultOf_0 (v := 0) (by decide) ?_
  refine g_istore_n C dX11_faultOf_1 (by decide) [(1, .int 0), (0, .ref (E.2.1 20))] rfl ?_
  refine g_iconst C dX11_faultOf_2 (v := 1) (by decide) ?_
  refine g_istore_n C dX11_faultOf_3 (by decide) [(2, .int 1), (1, .int 0), (0, .ref (E.2.1 20))] rfl ?_
  exact g_lv [(0, .ref (E.2.1 20)), (1, .int 0), (2, .int 1)] [2, 1, 0] rfl (t_X11_faultOf_L4 C hR fuel 0 1 hf)
abbrev rm_X11_fault : Room := { frames := 4, cells := 0, slots := 0, locals := 90 }
set_option maxRecDepth 100000 in
set_option maxHeartbeats 4000000 in
theorem c_X11_fault (l : Launch) (E : EV) {σ : ST} {rr : Int32} (hf : f_X11_fault σ = some rr) : CT l E yX11_fault cX11_fault 1 (some .int) rm_X11_fault [.ref (E.2.1 20)] σ (some (.int rr)) σ := by
  refine CT.of RX11 rfl (by decide) (Nat.le_of_ble_eq_true rfl) rfl rfl (fun Γ C hR => ?_)
  show GW Γ 1 E σ 0 [(0, .ref (E.2.1 20))] []
  rw [f_X11_fault] at hf
  refine g_aload_n C 0 dX11_fault_0 rfl ?_
  obtain ⟨r2, h1, hf⟩ := o_bind hf
  refine g_callV C 20 (c_X11_faultOf l E h1) cls_10 k_X11_101 ⟨rfl, rfl, Nat.le_of_ble_eq_true rfl, Nat.le_of_ble_eq_true rfl⟩ (by decide) rfl rfl (Nat.le_of_ble_eq_true rfl) dX11_fault_1 _ rfl ?_
  exact g_iretR C hR hf dX11_fault_4
abbrev rm_X11_city : Room := { frames := 4, cells := 0, slots := 0, locals := 90 }
set_option maxRecDepth 100000 in
set_option maxHeartbeats 4000000 in
theorem t_X11_city_B163 {Γ : CX} {l : Launch} {E : EV} {rr : Int32} {ss : ST} (C : FX Γ l cX11_city 3 RX11 rm_X11_city E) (hR : RT Γ (some .int) E (some (.int rr)) ss) (σ : ST) (hf : f_X11_city_B163 σ = some (rr, ss)) : GW Γ 3 E σ 163 [(0, .ref (E.2.1 20))] [] := by
  rw [f_X11_city_B163] at hf
  refine g_aload_n C 0 dX11_city_163 rfl ?_
  refine g_iconst C dX11_city_164 (v := 0) (by decide) ?_
  obtain ⟨σ9, hσ9, hf⟩ := o_let hf
  refine fp_X11_111_20 C dX11_city_165 hσ9 ?_
  refine g_aload_n C 0 dX11_city_168 rfl ?_
  refine g_iconst C dX11_city_169 (v := 0) (by decide) ?_
  obtain ⟨σ10, hσ10, hf⟩ := o_let hf
  refine fp_X11_114_20 C dX11_city_170 (by decide) hσ10 ?_
  refine g_aload_n C 0 dX11_city_173 rfl ?_
  refine g_iconst C dX11_city_174 (v := 0) (by decide) ?_
  obtain ⟨σ11, hσ11, hf⟩ := o_let hf
  refine fp_X11_118_20 C dX11_city_175 hσ11 ?_
  refine g_aload_n C 0 dX11_city_178 rfl ?_
  refine g_iconst C dX11_city_179 (v := 0) (by decide) ?_
  obtain ⟨σ12, hσ12, hf⟩ := o_let hf
  refine fp_X11_121_20 C dX11_city_180 hσ12 ?_
  refine g_aload_n C 0 dX11_city_183 rfl ?_
  refine g_dup C dX11_city_184 rfl ?_
  refine fg_X11_124_20 C dX11_city_185 ?_
  refine g_iconst C dX11_city_188 (v := 1) (by decide) ?_
  refine g_iadd C dX11_city_189 ?_
  obtain ⟨σ13, hσ13, hf⟩ := o_let hf
  refine fp_X11_124_20 C dX11_city_190 hσ13 ?_
  refine g_aload_n C 0 dX11_city_193 rfl ?_
  refine g_iconst C dX11_city_194 (v := 0) (by decide) ?_
  obtain ⟨σ14, hσ14, hf⟩ := o_let hf
  refine fp_X11_77_20 C dX11_city_195 hσ14 ?_
  refine g_aload_n C 0 dX11_city_198 rfl ?_
  refine fg_X11_108_20 C dX11_city_199 ?_
  exact g_iretW C hR hf dX11_city_202
set_option maxRecDepth 100000 in
set_option maxHeartbeats 4000000 in
theorem t_X11_city_L60 {Γ : CX} {l : Launch} {E : EV} {rr : Int32} {ss : ST} (C : FX Γ l cX11_city 3 RX11 rm_X11_city E) (hR : RT Γ (some .int) E (some (.int rr)) ss) : ∀ (n : Nat) (v1 : Int32) (σ : ST), f_X11_city_L60 n v1 σ = some (rr, ss) → GW Γ 3 E σ 60 [(0, .ref (E.2.1 20)), (1, .int v1)] [] := by
  intro n
  induction n with
  | zero => intro v1 σ hf; exact nomatch hf
  | succ n ih =>
    intro v1 σ hf
    rw [f_X11_city_L60] at hf
    refine g_iload_n C 1 dX11_city_60 rfl ?_
    refine g_aload_n C 0 dX11_city_61 rfl ?_
    refine fg_X11_108_20 C dX11_city_62 ?_
    refine g_icmp_ge (tgt := 163) C dX11_city_65 (by decide) (fun c8 => ?_) (fun c8 => ?_)
    · rw [if_pos c8] at hf
      exact g_lv [(0, .ref (E.2.1 20))] [0] rfl (t_X11_city_B163 C hR σ hf)
    · rw [if_neg c8] at hf
      refine g_iconst C dX11_city_68 (v := 2) (by decide) ?_
      refine g_iconst C dX11_city_69 (v := 5) (by decide) ?_
      refine g_iload_n C 1 dX11_city_70 rfl ?_
      refine g_imul C dX11_city_71 ?_
      refine g_iadd C dX11_city_72 ?_
      obtain ⟨x15, hx15, hf⟩ := o_let hf
      refine g_topi hx15 ?_
      refine g_istore_n C dX11_city_73 (by decide) [(2, .int x15), (0, .ref (E.2.1 20)), (1, .int v1)] rfl ?_
      refine g_aload_n C 1 dX11_city_74 rfl ?_
      refine fg_X11_13_20 C dX11_city_75 ?_
      refine g_iconst C dX11_city_78 (v := 3) (by decide) ?_
      refine g_iload_n C 2 dX11_city_79 rfl ?_
      refine g_imul C dX11_city_80 ?_
      refine g_aload_n C 1 dX11_city_81 rfl ?_
      refine fg_X11_7_20 C dX11_city_82 ?_
      refine g_iload_n C 0 dX11_city_85 rfl ?_
      obtain ⟨h16, hf⟩ := o_if hf
      refine g_ald C ar_21 dX11_city_86 (k := x15.toNatClampNeg) rfl h16 ?_
      obtain ⟨r18, h17, hf⟩ := o_bind hf
      refine g_callS C (c_X11_kindBy l E h17) k_X11_82 ⟨rfl, rfl, Nat.le_of_ble_eq_true rfl, Nat.le_of_ble_eq_true rfl⟩ rfl (Nat.le_of_ble_eq_true rfl) dX11_city_87 _ rfl ?_
      obtain ⟨h20, hf⟩ := o_if hf
      obtain ⟨σ19, hσ19, hf⟩ := o_let hf
      refine g_ast C ar_22 dX11_city_90 (k := (3 * v1).toNatClampNeg) rfl h20 hσ19 ?_
      refine g_aload_n C 1 dX11_city_91 rfl ?_
      refine fg_X11_13_20 C dX11_city_92 ?_
      refine g_iconst C dX11_city_95 (v := 3) (by decide) ?_
      refine g_iload_n C 2 dX11_city_96 rfl ?_
      refine g_imul C dX11_city_97 ?_
      refine g_iconst C dX11_city_98 (v := 1) (by decide) ?_
      refine g_iadd C dX11_city_99 ?_
      refine g_aload_n C 1 dX11_city_100 rfl ?_
      refine fg_X11_7_20 C dX11_city_101 ?_
      refine g_iload_n C 0 dX11_city_104 rfl ?_
      refine g_iconst C dX11_city_105 (v := 1) (by decide) ?_
      refine g_iadd C dX11_city_106 ?_
      obtain ⟨h21, hf⟩ := o_if hf
      refine g_ald C ar_21 dX11_city_107 (k := (x15 + 1).toNatClampNeg) rfl h21 ?_
      refine g_bipush C dX11_city_108 (v := 48) (by decide) ?_
      refine g_isub C dX11_city_110 ?_
      obtain ⟨h23, hf⟩ := o_if hf
      obtain ⟨σ22, hσ22, hf⟩ := o_let hf
      refine g_ast C ar_22 dX11_city_111 (k := ((3 * v1) + 1).toNatClampNeg) rfl h23 hσ22 ?_
      refine g_aload_n C 1 dX11_city_112 rfl ?_
      refine fg_X11_13_20 C dX11_city_113 ?_
      refine g_iconst C dX11_city_116 (v := 3) (by decide) ?_
      refine g_iload_n C 2 dX11_city_117 rfl ?_
      refine g_imul C dX11_city_118 ?_
      refine g_iconst C dX11_city_119 (v := 2) (by decide) ?_
      refine g_iadd C dX11_city_120 ?_
      refine g_aload_n C 1 dX11_city_121 rfl ?_
      refine fg_X11_7_20 C dX11_city_122 ?_
      refine g_iload_n C 0 dX11_city_125 rfl ?_
      refine g_iconst C dX11_city_126 (v := 2) (by decide) ?_
      refine g_iadd C dX11_city_127 ?_
      obtain ⟨h24, hf⟩ := o_if hf
      refine g_ald C ar_21 dX11_city_128 (k := (x15 + 2).toNatClampNeg) rfl h24 ?_
      refine g_bipush C dX11_city_129 (v := 48) (by decide) ?_
      refine g_isub C dX11_city_131 ?_
      obtain ⟨h26, hf⟩ := o_if hf
      obtain ⟨σ25, hσ25, hf⟩ := o_let hf
      refine g_ast C ar_22 dX11_city_132 (k := ((3 * v1) + 2).toNatClampNeg) rfl h26 hσ25 ?_
      refine g_aload_n C 1 dX11_city_133 rfl ?_
      refine fg_X11_16_20 C dX11_city_134 ?_
      refine g_iload_n C 2 dX11_city_137 rfl ?_
      refine g_aload_n C 1 dX11_city_138 rfl ?_
      refine fg_X11_7_20 C dX11_city_139 ?_
      refine g_iload_n C 0 dX11_city_142 rfl ?_
      refine g_iconst C dX11_city_143 (v := 3) (by decide) ?_
      refine g_iadd C dX11_city_144 ?_
      obtain ⟨h27, hf⟩ := o_if hf
      refine g_ald C ar_21 dX11_city_145 (k := (x15 + 3).toNatClampNeg) rfl h27 ?_
      refine g_bipush C dX11_city_146 (v := 97) (by decide) ?_
      refine g_isub C dX11_city_148 ?_
      obtain ⟨h29, hf⟩ := o_if hf
      obtain ⟨σ28, hσ28, hf⟩ := o_let hf
      refine g_ast C ar_23 dX11_city_149 (k := v1.toNatClampNeg) rfl h29 hσ28 ?_
      refine g_aload_n C 1 dX11_city_150 rfl ?_
      refine fg_X11_19_20 C dX11_city_151 ?_
      refine g_iload_n C 2 dX11_city_154 rfl ?_
      refine g_iconst C dX11_city_155 (v := 0) (by decide) ?_
      obtain ⟨h31, hf⟩ := o_if hf
      obtain ⟨σ30, hσ30, hf⟩ := o_let hf
      refine g_ast C ar_24 dX11_city_156 (k := v1.toNatClampNeg) rfl h31 hσ30 ?_
      obtain ⟨x32, hx32, hf⟩ := o_let hf
      refine g_iinc C 2 dX11_city_157 rfl hx32 (by decide) [(1, .int x32), (2, .int x15), (0, .ref (E.2.1 20))] rfl ?_
      refine g_goto (tgt := 60) C dX11_city_160 (by decide) ?_
      exact g_lv [(0, .ref (E.2.1 20)), (1, .int x32)] [2, 0] rfl (ih x32 σ30 hf)
set_option maxRecDepth 100000 in
set_option maxHeartbeats 4000000 in
theorem c_X11_city (l : Launch) (E : EV) {σ ss : ST} {rr : Int32} (hf : f_X11_city σ = some (rr, ss)) : CT l E yX11_city cX11_city 3 (some .int) rm_X11_city [.ref (E.2.1 20)] σ (some (.int rr)) ss := by
  refine CT.of RX11 rfl (by decide) (Nat.le_of_ble_eq_true rfl) rfl rfl (fun Γ C hR => ?_)
  show GW Γ 3 E σ 0 [(0, .ref (E.2.1 20))] []
  rw [f_X11_city] at hf
  refine g_aload_n C 0 dX11_city_0 rfl ?_
  refine fg_X11_77_20 C dX11_city_1 ?_
  refine g_bipush C dX11_city_4 (v := 11) (by decide) ?_
  refine g_icmp_lt (tgt := 30) C dX11_city_6 (by decide) (fun c1 => ?_) (fun c1 => ?_)
  · rw [if_pos c1] at hf
    refine g_bipush C dX11_city_30 (v := (-103)) (by decide) ?_
    exact g_iretW C hR hf dX11_city_32
  · rw [if_neg c1] at hf
    refine g_aload_n C 0 dX11_city_9 rfl ?_
    refine fg_X11_77_20 C dX11_city_10 ?_
    refine g_iconst C dX11_city_13 (v := 5) (by decide) ?_
    refine g_irem C dX11_city_14 (by decide) ?_
    refine g_iconst C dX11_city_15 (v := 1) (by decide) ?_
    refine g_icmp_ne (tgt := 30) C dX11_city_16 (by decide) (fun c2 => ?_) (fun c2 => ?_)
    · rw [if_neg c2] at hf
      refine g_bipush C dX11_city_30 (v := (-103)) (by decide) ?_
      exact g_iretW C hR hf dX11_city_32
    · rw [if_pos c2] at hf
      refine g_aload_n C 0 dX11_city_19 rfl ?_
      obtain ⟨r4, h3, hf⟩ := o_bind hf
      refine g_callV C 20 (c_X11_faultOf l E h3) cls_10 k_X11_101 ⟨rfl, rfl, Nat.le_of_ble_eq_true rfl, Nat.le_of_ble_eq_true rfl⟩ (by decide) rfl rfl (Nat.le_of_ble_eq_true rfl) dX11_city_20 _ rfl ?_
      refine g_aload_n C 0 dX11_city_23 rfl ?_
      refine fg_X11_77_20 C dX11_city_24 ?_
      refine g_icmp_ge (tgt := 33) C dX11_city_27 (by decide) (fun c5 => ?_) (fun c5 => ?_)
      · rw [if_pos c5] at hf
        refine g_aload_n C 0 dX11_city_33 rfl ?_
        refine g_aload_n C 0 dX11_city_34 rfl ?_
        refine fg_X11_7_20 C dX11_city_35 ?_
        refine g_iconst C dX11_city_38 (v := 0) (by decide) ?_
        refine g_ald C ar_21 dX11_city_39 (k := 0) (by decide) (by decide) ?_
        refine g_bipush C dX11_city_40 (v := 48) (by decide) ?_
        refine g_isub C dX11_city_42 ?_
        obtain ⟨σ6, hσ6, hf⟩ := o_let hf
        refine fp_X11_105_20 C dX11_city_43 hσ6 ?_
        refine g_aload_n C 0 dX11_city_46 rfl ?_
        refine g_aload_n C 0 dX11_city_47 rfl ?_
        refine fg_X11_77_20 C dX11_city_48 ?_
        refine g_iconst C dX11_city_51 (v := 1) (by decide) ?_
        refine g_isub C dX11_city_52 ?_
        refine g_iconst C dX11_city_53 (v := 5) (by decide) ?_
        refine g_idiv C dX11_city_54 (by decide) ?_
        obtain ⟨σ7, hσ7, hf⟩ := o_let hf
        refine fp_X11_108_20 C dX11_city_55 hσ7 ?_
        refine g_iconst C dX11_city_58 (v := 0) (by decide) ?_
        refine g_istore_n C dX11_city_59 (by decide) [(1, .int 0), (0, .ref (E.2.1 20))] rfl ?_
        exact g_lv [(0, .ref (E.2.1 20)), (1, .int 0)] [1, 0] rfl (t_X11_city_L60 C hR fuel 0 σ7 hf)
      · rw [if_neg c5] at hf
        refine g_bipush C dX11_city_30 (v := (-103)) (by decide) ?_
        exact g_iretW C hR hf dX11_city_32
abbrev rm_X11_lacks : Room := { frames := 0, cells := 0, slots := 0, locals := 0 }
set_option maxRecDepth 100000 in
set_option maxHeartbeats 4000000 in
theorem c_X11_lacks (l : Launch) (E : EV) {σ : ST} {rr : Int32} (hf : f_X11_lacks σ = some rr) : CT l E yX11_lacks cX11_lacks 1 (some .boolean) rm_X11_lacks [.ref (E.2.1 20)] σ (some (.int rr)) σ := by
  refine CT.of RX11 rfl (by decide) (Nat.le_of_ble_eq_true rfl) rfl rfl (fun Γ C hR => ?_)
  show GW Γ 1 E σ 0 [(0, .ref (E.2.1 20))] []
  rw [f_X11_lacks] at hf
  refine g_aload_n C 0 dX11_lacks_0 rfl ?_
  refine fg_X11_108_20 C dX11_lacks_1 ?_
  refine g_if_ne (y := 0) (tgt := 11) C dX11_lacks_4 (by decide) (fun c1 => ?_) (fun c1 => ?_)
  · rw [if_neg c1] at hf
    refine g_iconst C dX11_lacks_11 (v := 0) (by decide) ?_
    exact g_zretR C hR hf (by decide) dX11_lacks_12
  · rw [if_pos c1] at hf
    refine g_iconst C dX11_lacks_7 (v := 1) (by decide) ?_
    refine g_goto (tgt := 12) C dX11_lacks_8 (by decide) ?_
    exact g_zretR C hR hf (by decide) dX11_lacks_12
abbrev rm_X11_isStreet : Room := { frames := 1, cells := 0, slots := 0, locals := 25 }
set_option maxRecDepth 100000 in
set_option maxHeartbeats 4000000 in
theorem c_X11_isStreet (l : Launch) (E : EV) {σ : ST} {p0 : Int32} {rr : Int32} (hf : f_X11_isStreet σ p0 = some rr) : CT l E yX11_isStreet cX11_isStreet 2 (some .boolean) rm_X11_isStreet [.ref (E.2.1 20), .int p0] σ (some (.int rr)) σ := by
  refine CT.of RX11 rfl (by decide) (Nat.le_of_ble_eq_true rfl) rfl rfl (fun Γ C hR => ?_)
  show GW Γ 2 E σ 0 [(0, .ref (E.2.1 20)), (1, .int p0)] []
  rw [f_X11_isStreet] at hf
  refine g_iload_n C 1 dX11_isStreet_0 rfl ?_
  refine g_i2l C dX11_isStreet_1 ?_
  refine g_lconst C dX11_isStreet_2 (v := 0) (by decide) ?_
  refine g_aload_n C 0 dX11_isStreet_3 rfl ?_
  refine fg_X11_108_20 C dX11_isStreet_4 ?_
  refine g_iconst C dX11_isStreet_7 (v := 1) (by decide) ?_
  refine g_isub C dX11_isStreet_8 ?_
  refine g_i2l C dX11_isStreet_9 ?_
  obtain ⟨r2, h1, hf⟩ := o_bind hf
  refine g_callS C (c_X11_in l E h1) k_X11_73 ⟨rfl, rfl, Nat.le_of_ble_eq_true rfl, Nat.le_of_ble_eq_true rfl⟩ rfl (Nat.le_of_ble_eq_true rfl) dX11_isStreet_10 _ rfl ?_
  obtain ⟨hz, hf⟩ := o_if hf
  exact g_zretR C hR hf hz dX11_isStreet_13
abbrev rm_X11_isNote : Room := { frames := 1, cells := 0, slots := 0, locals := 25 }
set_option maxRecDepth 100000 in
set_option maxHeartbeats 4000000 in
theorem c_X11_isNote (l : Launch) (E : EV) {σ : ST} {p0 : Int32} {rr : Int32} (hf : f_X11_isNote p0 = some rr) : CT l E yX11_isNote cX11_isNote 1 (some .boolean) rm_X11_isNote [.int p0] σ (some (.int rr)) σ := by
  refine CT.of RX11 rfl (by decide) (Nat.le_of_ble_eq_true rfl) rfl rfl (fun Γ C hR => ?_)
  show GW Γ 1 E σ 0 [(0, .int p0)] []
  rw [f_X11_isNote] at hf
  refine g_iload_n C 0 dX11_isNote_0 rfl ?_
  refine g_i2l C dX11_isNote_1 ?_
  refine g_lconst C dX11_isNote_2 (v := 0) (by decide) ?_
  refine g_ldc2 C dX11_isNote_3 (v := 11) kl_X11_127 ?_
  obtain ⟨r2, h1, hf⟩ := o_bind hf
  refine g_callS C (c_X11_in l E h1) k_X11_73 ⟨rfl, rfl, Nat.le_of_ble_eq_true rfl, Nat.le_of_ble_eq_true rfl⟩ rfl (Nat.le_of_ble_eq_true rfl) dX11_isNote_6 _ rfl ?_
  obtain ⟨hz, hf⟩ := o_if hf
  exact g_zretR C hR hf hz dX11_isNote_9
abbrev rm_X11_isTuneText : Room := { frames := 1, cells := 0, slots := 0, locals := 25 }
set_option maxRecDepth 100000 in
set_option maxHeartbeats 4000000 in
theorem t_X11_isTuneText_L15 {Γ : CX} {l : Launch} {E : EV} {σ : ST} {rr : Int32} (C : FX Γ l cX11_isTuneText 3 RX11 rm_X11_isTuneText E) (hR : RT Γ (some .boolean) E (some (.int rr)) σ) : ∀ (n : Nat) (v1 : Int32) (v2 : Int32), f_X11_isTuneText_L15 σ n v1 v2 = some rr → GW Γ 3 E σ 15 [(0, .ref (E.2.1 20)), (1, .int v1), (2, .int v2)] [] := by
  intro n
  induction n with
  | zero => intro v1 v2 hf; exact nomatch hf
  | succ n ih =>
    intro v1 v2 hf
    rw [f_X11_isTuneText_L15] at hf
    refine g_iload_n C 2 dX11_isTuneText_15 rfl ?_
    refine g_aload_n C 0 dX11_isTuneText_16 rfl ?_
    refine fg_X11_77_20 C dX11_isTuneText_17 ?_
    refine g_icmp_ge (tgt := 58) C dX11_isTuneText_20 (by decide) (fun c3 => ?_) (fun c3 => ?_)
    · rw [if_pos c3] at hf
      refine g_iload_n C 1 dX11_isTuneText_58 rfl ?_
      obtain ⟨hz, hf⟩ := o_if hf
      exact g_zretR C hR hf hz dX11_isTuneText_59
    · rw [if_neg c3] at hf
      refine g_iload_n C 1 dX11_isTuneText_23 rfl ?_
      obtain ⟨x4, ex4, hf⟩ := o_bind hf
      have Kx4 : GW Γ 3 E σ 51 [(0, .ref (E.2.1 20)), (2, .int v2)] [.int x4] := by
        refine g_istore_n C dX11_isTuneText_51 (by decide) [(1, .int x4), (0, .ref (E.2.1 20)), (2, .int v2)] rfl ?_
        obtain ⟨x10, hx10, hf⟩ := o_let hf
        refine g_iinc C 2 dX11_isTuneText_52 rfl hx10 (by decide) [(2, .int x10), (1, .int x4), (0, .ref (E.2.1 20))] rfl ?_
        refine g_goto (tgt := 15) C dX11_isTuneText_55 (by decide) ?_
        exact g_lv [(0, .ref (E.2.1 20)), (1, .int x4), (2, .int x10)] [2, 1, 0] rfl (ih x4 x10 hf)
      refine g_if_eq (y := 0) (tgt := 50) C dX11_isTuneText_24 (by decide) (fun c5 => ?_) (fun c5 => ?_)
      · rw [if_pos c5] at ex4
        refine g_iconst C dX11_isTuneText_50 (v := 0) (by decide) ?_
        rw [← Option.some.inj ex4] at Kx4
        exact g_lv [(0, .ref (E.2.1 20)), (2, .int v2)] [0, 2] rfl Kx4
      · rw [if_neg c5] at ex4
        refine g_aload_n C 0 dX11_isTuneText_27 rfl ?_
        refine fg_X11_7_20 C dX11_isTuneText_28 ?_
        refine g_iload_n C 2 dX11_isTuneText_31 rfl ?_
        obtain ⟨h6, ex4⟩ := o_if ex4
        refine g_ald C ar_21 dX11_isTuneText_32 (k := v2.toNatClampNeg) rfl h6 ?_
        refine g_i2l C dX11_isTuneText_33 ?_
        refine g_ldc2 C dX11_isTuneText_34 (v := 97) kl_X11_90 ?_
        refine g_ldc2 C dX11_isTuneText_37 (v := 108) kl_X11_92 ?_
        obtain ⟨r8, h7, ex4⟩ := o_bind ex4
        refine g_callS C (c_X11_in l E h7) k_X11_73 ⟨rfl, rfl, Nat.le_of_ble_eq_true rfl, Nat.le_of_ble_eq_true rfl⟩ rfl (Nat.le_of_ble_eq_true rfl) dX11_isTuneText_40 _ rfl ?_
        refine g_if_eq (y := 0) (tgt := 50) C dX11_isTuneText_43 (by decide) (fun c9 => ?_) (fun c9 => ?_)
        · rw [if_pos c9] at ex4
          refine g_iconst C dX11_isTuneText_50 (v := 0) (by decide) ?_
          rw [← Option.some.inj ex4] at Kx4
          exact g_lv [(0, .ref (E.2.1 20)), (2, .int v2)] [0, 2] rfl Kx4
        · rw [if_neg c9] at ex4
          refine g_iconst C dX11_isTuneText_46 (v := 1) (by decide) ?_
          refine g_goto (tgt := 51) C dX11_isTuneText_47 (by decide) ?_
          rw [← Option.some.inj ex4] at Kx4
          exact g_lv [(0, .ref (E.2.1 20)), (2, .int v2)] [0, 2] rfl Kx4
set_option maxRecDepth 100000 in
set_option maxHeartbeats 4000000 in
theorem c_X11_isTuneText (l : Launch) (E : EV) {σ : ST} {rr : Int32} (hf : f_X11_isTuneText σ = some rr) : CT l E yX11_isTuneText cX11_isTuneText 3 (some .boolean) rm_X11_isTuneText [.ref (E.2.1 20)] σ (some (.int rr)) σ := by
  refine CT.of RX11 rfl (by decide) (Nat.le_of_ble_eq_true rfl) rfl rfl (fun Γ C hR => ?_)
  show GW Γ 3 E σ 0 [(0, .ref (E.2.1 20))] []
  rw [f_X11_isTuneText] at hf
  refine g_aload_n C 0 dX11_isTuneText_0 rfl ?_
  refine fg_X11_77_20 C dX11_isTuneText_1 ?_
  refine g_i2l C dX11_isTuneText_4 ?_
  refine g_lconst C dX11_isTuneText_5 (v := 1) (by decide) ?_
  refine g_ldc2 C dX11_isTuneText_6 (v := 8) kl_X11_129 ?_
  obtain ⟨r2, h1, hf⟩ := o_bind hf
  refine g_callS C (c_X11_in l E h1) k_X11_73 ⟨rfl, rfl, Nat.le_of_ble_eq_true rfl, Nat.le_of_ble_eq_true rfl⟩ rfl (Nat.le_of_ble_eq_true rfl) dX11_isTuneText_9 _ rfl ?_
  refine g_istore_n C dX11_isTuneText_12 (by decide) [(1, .int r2), (0, .ref (E.2.1 20))] rfl ?_
  refine g_iconst C dX11_isTuneText_13 (v := 0) (by decide) ?_
  refine g_istore_n C dX11_isTuneText_14 (by decide) [(2, .int 0), (1, .int r2), (0, .ref (E.2.1 20))] rfl ?_
  exact g_lv [(0, .ref (E.2.1 20)), (1, .int r2), (2, .int 0)] [2, 1, 0] rfl (t_X11_isTuneText_L15 C hR fuel r2 0 hf)
abbrev rm_X11_tune : Room := { frames := 2, cells := 0, slots := 0, locals := 47 }
set_option maxRecDepth 100000 in
set_option maxHeartbeats 4000000 in
theorem t_X11_tune_B78 {Γ : CX} {l : Launch} {E : EV} {rr : Int32} {ss : ST} (C : FX Γ l cX11_tune 4 RX11 rm_X11_tune E) (hR : RT Γ (some .int) E (some (.int rr)) ss) (v1 : Int32) (v2 : Int32) (σ : ST) (hf : f_X11_tune_B78 v1 v2 σ = some (rr, ss)) : GW Γ 4 E σ 78 [(0, .ref (E.2.1 20)), (1, .int v1), (2, .int v2)] [] := by
  rw [f_X11_tune_B78] at hf
  refine g_iload_n C 1 dX11_tune_78 rfl ?_
  refine g_if_ne (y := 0) (tgt := 90) C dX11_tune_79 (by decide) (fun c9 => ?_) (fun c9 => ?_)
  · rw [if_neg c9] at hf
    refine g_aload_n C 0 dX11_tune_90 rfl ?_
    refine g_iload_n C 2 dX11_tune_91 rfl ?_
    obtain ⟨σ10, hσ10, hf⟩ := o_let hf
    refine fp_X11_138_20 C dX11_tune_92 hσ10 ?_
    refine g_aload_n C 0 dX11_tune_95 rfl ?_
    refine g_iconst C dX11_tune_96 (v := 0) (by decide) ?_
    obtain ⟨σ11, hσ11, hf⟩ := o_let hf
    refine fp_X11_77_20 C dX11_tune_97 hσ11 ?_
    refine g_iload_n C 2 dX11_tune_100 rfl ?_
    exact g_iretW C hR hf dX11_tune_101
  · rw [if_pos c9] at hf
    refine g_aload_n C 0 dX11_tune_82 rfl ?_
    refine g_iload_n C 2 dX11_tune_83 rfl ?_
    obtain ⟨σ12, hσ12, hf⟩ := o_let hf
    refine fp_X11_135_20 C dX11_tune_84 hσ12 ?_
    refine g_goto (tgt := 95) C dX11_tune_87 (by decide) ?_
    refine g_aload_n C 0 dX11_tune_95 rfl ?_
    refine g_iconst C dX11_tune_96 (v := 0) (by decide) ?_
    obtain ⟨σ13, hσ13, hf⟩ := o_let hf
    refine fp_X11_77_20 C dX11_tune_97 hσ13 ?_
    refine g_iload_n C 2 dX11_tune_100 rfl ?_
    exact g_iretW C hR hf dX11_tune_101
set_option maxRecDepth 100000 in
set_option maxHeartbeats 4000000 in
theorem t_X11_tune_L30 {Γ : CX} {l : Launch} {E : EV} {rr : Int32} {ss : ST} (C : FX Γ l cX11_tune 4 RX11 rm_X11_tune E) (hR : RT Γ (some .int) E (some (.int rr)) ss) : ∀ (n : Nat) (v1 : Int32) (v2 : Int32) (v3 : Int32) (σ : ST), f_X11_tune_L30 n v1 v2 v3 σ = some (rr, ss) → GW Γ 4 E σ 30 [(0, .ref (E.2.1 20)), (1, .int v1), (2, .int v2), (3, .int v3)] [] := by
  intro n
  induction n with
  | zero => intro v1 v2 v3 σ hf; exact nomatch hf
  | succ n ih =>
    intro v1 v2 v3 σ hf
    rw [f_X11_tune_L30] at hf
    refine g_iload_n C 3 dX11_tune_30 rfl ?_
    refine g_iload_n C 2 dX11_tune_31 rfl ?_
    refine g_icmp_ge (tgt := 78) C dX11_tune_32 (by decide) (fun c8 => ?_) (fun c8 => ?_)
    · rw [if_pos c8] at hf
      exact g_lv [(0, .ref (E.2.1 20)), (1, .int v1), (2, .int v2)] [0, 1, 2] rfl (t_X11_tune_B78 C hR v1 v2 σ hf)
    · rw [if_neg c8] at hf
      refine g_iload_n C 1 dX11_tune_35 rfl ?_
      refine g_if_ne (y := 0) (tgt := 57) C dX11_tune_36 (by decide) (fun c14 => ?_) (fun c14 => ?_)
      · rw [if_neg c14] at hf
        refine g_aload_n C 0 dX11_tune_57 rfl ?_
        refine fg_X11_25_20 C dX11_tune_58 ?_
        refine g_iload_n C 3 dX11_tune_61 rfl ?_
        refine g_aload_n C 0 dX11_tune_62 rfl ?_
        refine fg_X11_7_20 C dX11_tune_63 ?_
        refine g_iload_n C 3 dX11_tune_66 rfl ?_
        obtain ⟨h15, hf⟩ := o_if hf
        refine g_ald C ar_21 dX11_tune_67 (k := v3.toNatClampNeg) rfl h15 ?_
        refine g_bipush C dX11_tune_68 (v := 97) (by decide) ?_
        refine g_isub C dX11_tune_70 ?_
        obtain ⟨h17, hf⟩ := o_if hf
        obtain ⟨σ16, hσ16, hf⟩ := o_let hf
        refine g_ast C ar_26 dX11_tune_71 (k := v3.toNatClampNeg) rfl h17 hσ16 ?_
        obtain ⟨x18, hx18, hf⟩ := o_let hf
        refine g_iinc C 3 dX11_tune_72 rfl hx18 (by decide) [(3, .int x18), (0, .ref (E.2.1 20)), (1, .int v1), (2, .int v2)] rfl ?_
        refine g_goto (tgt := 30) C dX11_tune_75 (by decide) ?_
        exact g_lv [(0, .ref (E.2.1 20)), (1, .int v1), (2, .int v2), (3, .int x18)] [1, 2, 3, 0] rfl (ih v1 v2 x18 σ16 hf)
      · rw [if_pos c14] at hf
        refine g_aload_n C 0 dX11_tune_39 rfl ?_
        refine fg_X11_22_20 C dX11_tune_40 ?_
        refine g_iload_n C 3 dX11_tune_43 rfl ?_
        refine g_aload_n C 0 dX11_tune_44 rfl ?_
        refine fg_X11_7_20 C dX11_tune_45 ?_
        refine g_iload_n C 3 dX11_tune_48 rfl ?_
        obtain ⟨h19, hf⟩ := o_if hf
        refine g_ald C ar_21 dX11_tune_49 (k := v3.toNatClampNeg) rfl h19 ?_
        refine g_bipush C dX11_tune_50 (v := 97) (by decide) ?_
        refine g_isub C dX11_tune_52 ?_
        obtain ⟨h21, hf⟩ := o_if hf
        obtain ⟨σ20, hσ20, hf⟩ := o_let hf
        refine g_ast C ar_25 dX11_tune_53 (k := v3.toNatClampNeg) rfl h21 hσ20 ?_
        refine g_goto (tgt := 72) C dX11_tune_54 (by decide) ?_
        obtain ⟨x22, hx22, hf⟩ := o_let hf
        refine g_iinc C 3 dX11_tune_72 rfl hx22 (by decide) [(3, .int x22), (0, .ref (E.2.1 20)), (1, .int v1), (2, .int v2)] rfl ?_
        refine g_goto (tgt := 30) C dX11_tune_75 (by decide) ?_
        exact g_lv [(0, .ref (E.2.1 20)), (1, .int v1), (2, .int v2), (3, .int x22)] [1, 2, 3, 0] rfl (ih v1 v2 x22 σ20 hf)
set_option maxRecDepth 100000 in
set_option maxHeartbeats 4000000 in
theorem c_X11_tune (l : Launch) (E : EV) {σ ss : ST} {p0 : Int32} {rr : Int32} (hf : f_X11_tune p0 σ = some (rr, ss)) : CT l E yX11_tune cX11_tune 4 (some .int) rm_X11_tune [.ref (E.2.1 20), .int p0] σ (some (.int rr)) ss := by
  refine CT.of RX11 rfl (by decide) (Nat.le_of_ble_eq_true rfl) rfl rfl (fun Γ C hR => ?_)
  show GW Γ 4 E σ 0 [(0, .ref (E.2.1 20)), (1, .int p0)] []
  rw [f_X11_tune] at hf
  refine g_iload_n C 1 dX11_tune_0 rfl ?_
  refine g_i2l C dX11_tune_1 ?_
  refine g_lconst C dX11_tune_2 (v := 0) (by decide) ?_
  refine g_lconst C dX11_tune_3 (v := 1) (by decide) ?_
  obtain ⟨r2, h1, hf⟩ := o_bind hf
  refine g_callS C (c_X11_in l E h1) k_X11_73 ⟨rfl, rfl, Nat.le_of_ble_eq_true rfl, Nat.le_of_ble_eq_true rfl⟩ rfl (Nat.le_of_ble_eq_true rfl) dX11_tune_4 _ rfl ?_
  refine g_if_ne (y := 0) (tgt := 13) C dX11_tune_7 (by decide) (fun c3 => ?_) (fun c3 => ?_)
  · rw [if_neg c3] at hf
    refine g_aload_n C 0 dX11_tune_13 rfl ?_
    obtain ⟨r5, h4, hf⟩ := o_bind hf
    refine g_callV C 20 (c_X11_isTuneText l E h4) cls_10 k_X11_131 ⟨rfl, rfl, Nat.le_of_ble_eq_true rfl, Nat.le_of_ble_eq_true rfl⟩ (by decide) rfl rfl (Nat.le_of_ble_eq_true rfl) dX11_tune_14 _ rfl ?_
    refine g_if_ne (y := 0) (tgt := 23) C dX11_tune_17 (by decide) (fun c6 => ?_) (fun c6 => ?_)
    · rw [if_neg c6] at hf
      refine g_aload_n C 0 dX11_tune_23 rfl ?_
      refine fg_X11_77_20 C dX11_tune_24 ?_
      obtain ⟨x7, hx7, hf⟩ := o_let hf
      refine g_topi hx7 ?_
      refine g_istore_n C dX11_tune_27 (by decide) [(2, .int x7), (0, .ref (E.2.1 20)), (1, .int p0)] rfl ?_
      refine g_iconst C dX11_tune_28 (v := 0) (by decide) ?_
      refine g_istore_n C dX11_tune_29 (by decide) [(3, .int 0), (2, .int x7), (0, .ref (E.2.1 20)), (1, .int p0)] rfl ?_
      exact g_lv [(0, .ref (E.2.1 20)), (1, .int p0), (2, .int x7), (3, .int 0)] [2, 3, 1, 0] rfl (t_X11_tune_L30 C hR fuel p0 x7 0 σ hf)
    · rw [if_pos c6] at hf
      refine g_bipush C dX11_tune_20 (v := (-103)) (by decide) ?_
      exact g_iretW C hR hf dX11_tune_22
  · rw [if_pos c3] at hf
    refine g_bipush C dX11_tune_10 (v := (-101)) (by decide) ?_
    exact g_iretW C hR hf dX11_tune_12
abbrev rm_X11_manyOf : Room := { frames := 0, cells := 0, slots := 0, locals := 0 }
set_option maxRecDepth 100000 in
set_option maxHeartbeats 4000000 in
theorem c_X11_manyOf (l : Launch) (E : EV) {σ : ST} {p0 : Int32} {rr : Int32} (hf : f_X11_manyOf σ p0 = some rr) : CT l E yX11_manyOf cX11_manyOf 2 (some .int) rm_X11_manyOf [.ref (E.2.1 20), .int p0] σ (some (.int rr)) σ := by
  refine CT.of RX11 rfl (by decide) (Nat.le_of_ble_eq_true rfl) rfl rfl (fun Γ C hR => ?_)
  show GW Γ 2 E σ 0 [(0, .ref (E.2.1 20)), (1, .int p0)] []
  rw [f_X11_manyOf] at hf
  refine g_iload_n C 1 dX11_manyOf_0 rfl ?_
  refine g_if_ne (y := 0) (tgt := 11) C dX11_manyOf_1 (by decide) (fun c1 => ?_) (fun c1 => ?_)
  · rw [if_neg c1] at hf
    refine g_aload_n C 0 dX11_manyOf_11 rfl ?_
    refine fg_X11_138_20 C dX11_manyOf_12 ?_
    exact g_iretR C hR hf dX11_manyOf_15
  · rw [if_pos c1] at hf
    refine g_aload_n C 0 dX11_manyOf_4 rfl ?_
    refine fg_X11_135_20 C dX11_manyOf_5 ?_
    refine g_goto (tgt := 15) C dX11_manyOf_8 (by decide) ?_
    exact g_iretR C hR hf dX11_manyOf_15
abbrev rm_X11_isTune : Room := { frames := 1, cells := 0, slots := 0, locals := 25 }
set_option maxRecDepth 100000 in
set_option maxHeartbeats 4000000 in
theorem c_X11_isTune (l : Launch) (E : EV) {σ : ST} {p0 : Int32} {rr : Int32} (hf : f_X11_isTune σ p0 = some rr) : CT l E yX11_isTune cX11_isTune 2 (some .boolean) rm_X11_isTune [.ref (E.2.1 20), .int p0] σ (some (.int rr)) σ := by
  refine CT.of RX11 rfl (by decide) (Nat.le_of_ble_eq_true rfl) rfl rfl (fun Γ C hR => ?_)
  show GW Γ 2 E σ 0 [(0, .ref (E.2.1 20)), (1, .int p0)] []
  rw [f_X11_isTune] at hf
  refine g_iload_n C 1 dX11_isTune_0 rfl ?_
  refine g_i2l C dX11_isTune_1 ?_
  refine g_lconst C dX11_isTune_2 (v := 0) (by decide) ?_
  refine g_lconst C dX11_isTune_3 (v := 1) (by decide) ?_
  obtain ⟨r2, h1, hf⟩ := o_bind hf
  refine g_callS C (c_X11_in l E h1) k_X11_73 ⟨rfl, rfl, Nat.le_of_ble_eq_true rfl, Nat.le_of_ble_eq_true rfl⟩ rfl (Nat.le_of_ble_eq_true rfl) dX11_isTune_4 _ rfl ?_
  refine g_if_eq (y := 0) (tgt := 22) C dX11_isTune_7 (by decide) (fun c3 => ?_) (fun c3 => ?_)
  · rw [if_pos c3] at hf
    refine g_iconst C dX11_isTune_22 (v := 0) (by decide) ?_
    exact g_zretR C hR hf (by decide) dX11_isTune_23
  · rw [if_neg c3] at hf
    refine g_aload_n C 0 dX11_isTune_10 rfl ?_
    refine g_iload_n C 1 dX11_isTune_11 rfl ?_
    obtain ⟨r5, h4, hf⟩ := o_bind hf
    refine g_callV C 20 (c_X11_manyOf l E h4) cls_10 k_X11_141 ⟨rfl, rfl, Nat.le_of_ble_eq_true rfl, Nat.le_of_ble_eq_true rfl⟩ (by decide) rfl rfl (Nat.le_of_ble_eq_true rfl) dX11_isTune_12 _ rfl ?_
    refine g_if_le (y := 0) (tgt := 22) C dX11_isTune_15 (by decide) (fun c6 => ?_) (fun c6 => ?_)
    · rw [if_pos c6] at hf
      refine g_iconst C dX11_isTune_22 (v := 0) (by decide) ?_
      exact g_zretR C hR hf (by decide) dX11_isTune_23
    · rw [if_neg c6] at hf
      refine g_iconst C dX11_isTune_18 (v := 1) (by decide) ?_
      refine g_goto (tgt := 23) C dX11_isTune_19 (by decide) ?_
      exact g_zretR C hR hf (by decide) dX11_isTune_23
abbrev rm_X11_areBoth : Room := { frames := 0, cells := 0, slots := 0, locals := 0 }
set_option maxRecDepth 100000 in
set_option maxHeartbeats 4000000 in
theorem c_X11_areBoth (l : Launch) (E : EV) {σ : ST} {rr : Int32} (hf : f_X11_areBoth σ = some rr) : CT l E yX11_areBoth cX11_areBoth 1 (some .boolean) rm_X11_areBoth [.ref (E.2.1 20)] σ (some (.int rr)) σ := by
  refine CT.of RX11 rfl (by decide) (Nat.le_of_ble_eq_true rfl) rfl rfl (fun Γ C hR => ?_)
  show GW Γ 1 E σ 0 [(0, .ref (E.2.1 20))] []
  rw [f_X11_areBoth] at hf
  refine g_aload_n C 0 dX11_areBoth_0 rfl ?_
  refine fg_X11_135_20 C dX11_areBoth_1 ?_
  refine g_if_le (y := 0) (tgt := 18) C dX11_areBoth_4 (by decide) (fun c1 => ?_) (fun c1 => ?_)
  · rw [if_pos c1] at hf
    refine g_iconst C dX11_areBoth_18 (v := 0) (by decide) ?_
    exact g_zretR C hR hf (by decide) dX11_areBoth_19
  · rw [if_neg c1] at hf
    refine g_aload_n C 0 dX11_areBoth_7 rfl ?_
    refine fg_X11_138_20 C dX11_areBoth_8 ?_
    refine g_if_le (y := 0) (tgt := 18) C dX11_areBoth_11 (by decide) (fun c2 => ?_) (fun c2 => ?_)
    · rw [if_pos c2] at hf
      refine g_iconst C dX11_areBoth_18 (v := 0) (by decide) ?_
      exact g_zretR C hR hf (by decide) dX11_areBoth_19
    · rw [if_neg c2] at hf
      refine g_iconst C dX11_areBoth_14 (v := 1) (by decide) ?_
      refine g_goto (tgt := 19) C dX11_areBoth_15 (by decide) ?_
      exact g_zretR C hR hf (by decide) dX11_areBoth_19
abbrev rm_X11_noteAt : Room := { frames := 0, cells := 0, slots := 0, locals := 0 }
set_option maxRecDepth 100000 in
set_option maxHeartbeats 4000000 in
theorem c_X11_noteAt (l : Launch) (E : EV) {σ : ST} {p0 : Int32} {p1 : Int32} {rr : Int32} (hf : f_X11_noteAt σ p0 p1 = some rr) : CT l E yX11_noteAt cX11_noteAt 3 (some .int) rm_X11_noteAt [.ref (E.2.1 20), .int p0, .int p1] σ (some (.int rr)) σ := by
  refine CT.of RX11 rfl (by decide) (Nat.le_of_ble_eq_true rfl) rfl rfl (fun Γ C hR => ?_)
  show GW Γ 3 E σ 0 [(0, .ref (E.2.1 20)), (1, .int p0), (2, .int p1)] []
  rw [f_X11_noteAt] at hf
  refine g_iload_n C 1 dX11_noteAt_0 rfl ?_
  refine g_if_ne (y := 0) (tgt := 13) C dX11_noteAt_1 (by decide) (fun c1 => ?_) (fun c1 => ?_)
  · rw [if_neg c1] at hf
    refine g_aload_n C 0 dX11_noteAt_13 rfl ?_
    refine fg_X11_25_20 C dX11_noteAt_14 ?_
    refine g_iload_n C 2 dX11_noteAt_17 rfl ?_
    obtain ⟨h2, hf⟩ := o_if hf
    refine g_ald C ar_26 dX11_noteAt_18 (k := p1.toNatClampNeg) rfl h2 ?_
    exact g_iretR C hR hf dX11_noteAt_19
  · rw [if_pos c1] at hf
    refine g_aload_n C 0 dX11_noteAt_4 rfl ?_
    refine fg_X11_22_20 C dX11_noteAt_5 ?_
    refine g_iload_n C 2 dX11_noteAt_8 rfl ?_
    obtain ⟨h3, hf⟩ := o_if hf
    refine g_ald C ar_25 dX11_noteAt_9 (k := p1.toNatClampNeg) rfl h3 ?_
    refine g_goto (tgt := 19) C dX11_noteAt_10 (by decide) ?_
    exact g_iretR C hR hf dX11_noteAt_19
abbrev rm_X11_tritonesOf : Room := { frames := 1, cells := 0, slots := 0, locals := 21 }
set_option maxRecDepth 100000 in
set_option maxHeartbeats 4000000 in
theorem t_X11_tritonesOf_L4 {Γ : CX} {l : Launch} {E : EV} {o0 : Nat} {n0 : Nat} {σ : ST} {rr : Int32} (C : FX Γ l cX11_tritonesOf 4 RX11 rm_X11_tritonesOf E) (hR : RT Γ (some .int) E (some (.int rr)) σ) (hA0 : ARY o0 n0) : ∀ (n : Nat) (v1 : Int32) (v2 : Int32) (v3 : Int32), f_X11_tritonesOf_L4 o0 n0 σ n v1 v2 v3 = some rr → GW Γ 4 E σ 4 [(0, .ref (E.2.1 o0)), (1, .int v1), (2, .int v2), (3, .int v3)] [] := by
  intro n
  induction n with
  | zero => intro v1 v2 v3 hf; exact nomatch hf
  | succ n ih =>
    intro v1 v2 v3 hf
    rw [f_X11_tritonesOf_L4] at hf
    refine g_iload_n C 3 dX11_tritonesOf_4 rfl ?_
    refine g_iload_n C 1 dX11_tritonesOf_5 rfl ?_
    refine g_icmp_ge (tgt := 39) C dX11_tritonesOf_6 (by decide) (fun c1 => ?_) (fun c1 => ?_)
    · rw [if_pos c1] at hf
      refine g_iload_n C 2 dX11_tritonesOf_39 rfl ?_
      exact g_iretR C hR hf dX11_tritonesOf_40
    · rw [if_neg c1] at hf
      refine g_iload_n C 2 dX11_tritonesOf_9 rfl ?_
      refine g_aload_n C 0 dX11_tritonesOf_10 rfl ?_
      refine g_iload_n C 3 dX11_tritonesOf_11 rfl ?_
      obtain ⟨h2, hf⟩ := o_if hf
      refine g_ald C hA0 dX11_tritonesOf_12 (k := v3.toNatClampNeg) rfl h2 ?_
      refine g_aload_n C 0 dX11_tritonesOf_13 rfl ?_
      refine g_iload_n C 3 dX11_tritonesOf_14 rfl ?_
      refine g_iconst C dX11_tritonesOf_15 (v := 1) (by decide) ?_
      refine g_isub C dX11_tritonesOf_16 ?_
      obtain ⟨h3, hf⟩ := o_if hf
      refine g_ald C hA0 dX11_tritonesOf_17 (k := (v3 - 1).toNatClampNeg) rfl h3 ?_
      obtain ⟨r5, h4, hf⟩ := o_bind hf
      refine g_callS C (c_X11_above l E h4) k_X11_144 ⟨rfl, rfl, Nat.le_of_ble_eq_true rfl, Nat.le_of_ble_eq_true rfl⟩ rfl (Nat.le_of_ble_eq_true rfl) dX11_tritonesOf_18 _ rfl ?_
      refine g_bipush C dX11_tritonesOf_21 (v := 6) (by decide) ?_
      obtain ⟨x6, ex6, hf⟩ := o_let hf
      have Kx6 : GW Γ 4 E σ 31 [(0, .ref (E.2.1 o0)), (1, .int v1), (3, .int v3)] [.int x6, .int v2] := by
        refine g_iadd C dX11_tritonesOf_31 ?_
        obtain ⟨x8, hx8, hf⟩ := o_let hf
        refine g_topi hx8 ?_
        refine g_istore_n C dX11_tritonesOf_32 (by decide) [(2, .int x8), (0, .ref (E.2.1 o0)), (1, .int v1), (3, .int v3)] rfl ?_
        obtain ⟨x9, hx9, hf⟩ := o_let hf
        refine g_iinc C 3 dX11_tritonesOf_33 rfl hx9 (by decide) [(3, .int x9), (2, .int x8), (0, .ref (E.2.1 o0)), (1, .int v1)] rfl ?_
        refine g_goto (tgt := 4) C dX11_tritonesOf_36 (by decide) ?_
        exact g_lv [(0, .ref (E.2.1 o0)), (1, .int v1), (2, .int x8), (3, .int x9)] [2, 3, 1, 0] rfl (ih v1 x8 x9 hf)
      refine g_icmp_ne (tgt := 30) C dX11_tritonesOf_23 (by decide) (fun c7 => ?_) (fun c7 => ?_)
      · rw [if_neg c7] at ex6
        refine g_iconst C dX11_tritonesOf_30 (v := 0) (by decide) ?_
        rw [← ex6] at Kx6
        exact g_lv [(0, .ref (E.2.1 o0)), (1, .int v1), (3, .int v3)] [0, 1, 3] rfl Kx6
      · rw [if_pos c7] at ex6
        refine g_iconst C dX11_tritonesOf_26 (v := 1) (by decide) ?_
        refine g_goto (tgt := 31) C dX11_tritonesOf_27 (by decide) ?_
        rw [← ex6] at Kx6
        exact g_lv [(0, .ref (E.2.1 o0)), (1, .int v1), (3, .int v3)] [0, 1, 3] rfl Kx6
set_option maxRecDepth 100000 in
set_option maxHeartbeats 4000000 in
theorem c_X11_tritonesOf (l : Launch) (E : EV) (o0 : Nat) (n0 : Nat) {σ : ST} (hA0 : ARY o0 n0) {p1 : Int32} {rr : Int32} (hf : f_X11_tritonesOf o0 n0 σ p1 = some rr) : CT l E yX11_tritonesOf cX11_tritonesOf 4 (some .int) rm_X11_tritonesOf [.ref (E.2.1 o0), .int p1] σ (some (.int rr)) σ := by
  refine CT.of RX11 rfl (by decide) (Nat.le_of_ble_eq_true rfl) rfl rfl (fun Γ C hR => ?_)
  show GW Γ 4 E σ 0 [(0, .ref (E.2.1 o0)), (1, .int p1)] []
  rw [f_X11_tritonesOf] at hf
  refine g_iconst C dX11_tritonesOf_0 (v := 0) (by decide) ?_
  refine g_istore_n C dX11_tritonesOf_1 (by decide) [(2, .int 0), (0, .ref (E.2.1 o0)), (1, .int p1)] rfl ?_
  refine g_iconst C dX11_tritonesOf_2 (v := 1) (by decide) ?_
  refine g_istore_n C dX11_tritonesOf_3 (by decide) [(3, .int 1), (2, .int 0), (0, .ref (E.2.1 o0)), (1, .int p1)] rfl ?_
  exact g_lv [(0, .ref (E.2.1 o0)), (1, .int p1), (2, .int 0), (3, .int 1)] [2, 3, 1, 0] rfl (t_X11_tritonesOf_L4 C hR hA0 fuel p1 0 1 hf)
abbrev rm_X11_isInScale : Room := { frames := 0, cells := 0, slots := 0, locals := 0 }
set_option maxRecDepth 100000 in
set_option maxHeartbeats 4000000 in
theorem t_X11_isInScale_B15 {Γ : CX} {l : Launch} {E : EV} {σ : ST} {rr : Int32} (C : FX Γ l cX11_isInScale 3 RX11 rm_X11_isInScale E) (hR : RT Γ (some .boolean) E (some (.int rr)) σ) (v1 : Int32) (s0 : Int32) (hf : f_X11_isInScale_B15 v1 s0 = some rr) : GW Γ 3 E σ 15 [(1, .int v1)] [.int s0] := by
  rw [f_X11_isInScale_B15] at hf
  refine g_istore_n C dX11_isInScale_15 (by decide) [(2, .int s0), (1, .int v1)] rfl ?_
  refine g_iload_n C 0 dX11_isInScale_16 rfl ?_
  refine g_iload_n C 1 dX11_isInScale_17 rfl ?_
  refine g_ishr C dX11_isInScale_18 ?_
  refine g_iconst C dX11_isInScale_19 (v := 1) (by decide) ?_
  refine g_iand C dX11_isInScale_20 ?_
  refine g_iconst C dX11_isInScale_21 (v := 1) (by decide) ?_
  refine g_icmp_ne (tgt := 29) C dX11_isInScale_22 (by decide) (fun c3 => ?_) (fun c3 => ?_)
  · rw [if_neg c3] at hf
    refine g_iconst C dX11_isInScale_29 (v := 0) (by decide) ?_
    exact g_zretR C hR hf (by decide) dX11_isInScale_30
  · rw [if_pos c3] at hf
    refine g_iconst C dX11_isInScale_25 (v := 1) (by decide) ?_
    refine g_goto (tgt := 30) C dX11_isInScale_26 (by decide) ?_
    exact g_zretR C hR hf (by decide) dX11_isInScale_30
set_option maxRecDepth 100000 in
set_option maxHeartbeats 4000000 in
theorem c_X11_isInScale (l : Launch) (E : EV) {σ : ST} {p0 : Int32} {p1 : Int32} {rr : Int32} (hf : f_X11_isInScale p0 p1 = some rr) : CT l E yX11_isInScale cX11_isInScale 3 (some .boolean) rm_X11_isInScale [.int p0, .int p1] σ (some (.int rr)) σ := by
  refine CT.of RX11 rfl (by decide) (Nat.le_of_ble_eq_true rfl) rfl rfl (fun Γ C hR => ?_)
  show GW Γ 3 E σ 0 [(0, .int p0), (1, .int p1)] []
  rw [f_X11_isInScale] at hf
  refine g_iload_n C 0 dX11_isInScale_0 rfl ?_
  refine g_bipush C dX11_isInScale_1 (v := 12) (by decide) ?_
  obtain ⟨x1, ex1, hf⟩ := o_let hf
  have Kx1 : GW Γ 3 E σ 15 [(1, .int p1)] [.int x1] := by
    exact t_X11_isInScale_B15 C hR p1 x1 hf
  refine g_icmp_ge (tgt := 12) C dX11_isInScale_3 (by decide) (fun c2 => ?_) (fun c2 => ?_)
  · rw [if_pos c2] at ex1
    refine g_sipush C dX11_isInScale_12 (v := 1453) (by decide) ?_
    rw [← ex1] at Kx1
    exact g_lv [(1, .int p1)] [1] rfl Kx1
  · rw [if_neg c2] at ex1
    refine g_sipush C dX11_isInScale_6 (v := 2741) (by decide) ?_
    refine g_goto (tgt := 15) C dX11_isInScale_9 (by decide) ?_
    rw [← ex1] at Kx1
    exact g_lv [(1, .int p1)] [1] rfl Kx1
abbrev rm_X11_inKey : Room := { frames := 1, cells := 0, slots := 0, locals := 22 }
set_option maxRecDepth 100000 in
set_option maxHeartbeats 4000000 in
theorem t_X11_inKey_L5 {Γ : CX} {l : Launch} {E : EV} {σ : ST} {rr : Int32} (C : FX Γ l cX11_inKey 5 RX11 rm_X11_inKey E) (hR : RT Γ (some .int) E (some (.int rr)) σ) : ∀ (n : Nat) (v1 : Int32) (v2 : Int32) (v3 : Int32) (v4 : Int32), f_X11_inKey_L5 σ n v1 v2 v3 v4 = some rr → GW Γ 5 E σ 5 [(0, .ref (E.2.1 20)), (1, .int v1), (2, .int v2), (3, .int v3), (4, .int v4)] [] := by
  intro n
  induction n with
  | zero => intro v1 v2 v3 v4 hf; exact nomatch hf
  | succ n ih =>
    intro v1 v2 v3 v4 hf
    rw [f_X11_inKey_L5] at hf
    refine g_iload C 4 dX11_inKey_5 rfl ?_
    refine g_aload_n C 0 dX11_inKey_7 rfl ?_
    refine g_iload_n C 1 dX11_inKey_8 rfl ?_
    obtain ⟨r2, h1, hf⟩ := o_bind hf
    refine g_callV C 20 (c_X11_manyOf l E h1) cls_10 k_X11_141 ⟨rfl, rfl, Nat.le_of_ble_eq_true rfl, Nat.le_of_ble_eq_true rfl⟩ (by decide) rfl rfl (Nat.le_of_ble_eq_true rfl) dX11_inKey_9 _ rfl ?_
    refine g_icmp_ge (tgt := 50) C dX11_inKey_12 (by decide) (fun c3 => ?_) (fun c3 => ?_)
    · rw [if_pos c3] at hf
      refine g_iload_n C 3 dX11_inKey_50 rfl ?_
      exact g_iretR C hR hf dX11_inKey_51
    · rw [if_neg c3] at hf
      refine g_iload_n C 3 dX11_inKey_15 rfl ?_
      refine g_iload_n C 2 dX11_inKey_16 rfl ?_
      refine g_aload_n C 0 dX11_inKey_17 rfl ?_
      refine g_iload_n C 1 dX11_inKey_18 rfl ?_
      refine g_iload C 4 dX11_inKey_19 rfl ?_
      obtain ⟨r5, h4, hf⟩ := o_bind hf
      refine g_callV C 20 (c_X11_noteAt l E h4) cls_10 k_X11_148 ⟨rfl, rfl, Nat.le_of_ble_eq_true rfl, Nat.le_of_ble_eq_true rfl⟩ (by decide) rfl rfl (Nat.le_of_ble_eq_true rfl) dX11_inKey_21 _ rfl ?_
      refine g_iload_n C 2 dX11_inKey_24 rfl ?_
      refine g_bipush C dX11_inKey_25 (v := 12) (by decide) ?_
      refine g_irem C dX11_inKey_27 (by decide) ?_
      obtain ⟨r7, h6, hf⟩ := o_bind hf
      refine g_callS C (c_X11_above l E h6) k_X11_144 ⟨rfl, rfl, Nat.le_of_ble_eq_true rfl, Nat.le_of_ble_eq_true rfl⟩ rfl (Nat.le_of_ble_eq_true rfl) dX11_inKey_28 _ rfl ?_
      obtain ⟨r9, h8, hf⟩ := o_bind hf
      refine g_callS C (c_X11_isInScale l E h8) k_X11_151 ⟨rfl, rfl, Nat.le_of_ble_eq_true rfl, Nat.le_of_ble_eq_true rfl⟩ rfl (Nat.le_of_ble_eq_true rfl) dX11_inKey_31 _ rfl ?_
      obtain ⟨x10, ex10, hf⟩ := o_let hf
      have Kx10 : GW Γ 5 E σ 42 [(0, .ref (E.2.1 20)), (1, .int v1), (2, .int v2), (4, .int v4)] [.int x10, .int v3] := by
        refine g_iadd C dX11_inKey_42 ?_
        obtain ⟨x12, hx12, hf⟩ := o_let hf
        refine g_topi hx12 ?_
        refine g_istore_n C dX11_inKey_43 (by decide) [(3, .int x12), (0, .ref (E.2.1 20)), (1, .int v1), (2, .int v2), (4, .int v4)] rfl ?_
        obtain ⟨x13, hx13, hf⟩ := o_let hf
        refine g_iinc C 4 dX11_inKey_44 rfl hx13 (by decide) [(4, .int x13), (3, .int x12), (0, .ref (E.2.1 20)), (1, .int v1), (2, .int v2)] rfl ?_
        refine g_goto (tgt := 5) C dX11_inKey_47 (by decide) ?_
        exact g_lv [(0, .ref (E.2.1 20)), (1, .int v1), (2, .int v2), (3, .int x12), (4, .int x13)] [2, 3, 4, 1, 0] rfl (ih v1 v2 x12 x13 hf)
      refine g_if_eq (y := 0) (tgt := 41) C dX11_inKey_34 (by decide) (fun c11 => ?_) (fun c11 => ?_)
      · rw [if_pos c11] at ex10
        refine g_iconst C dX11_inKey_41 (v := 0) (by decide) ?_
        rw [← ex10] at Kx10
        exact g_lv [(0, .ref (E.2.1 20)), (1, .int v1), (2, .int v2), (4, .int v4)] [0, 1, 2, 4] rfl Kx10
      · rw [if_neg c11] at ex10
        refine g_iconst C dX11_inKey_37 (v := 1) (by decide) ?_
        refine g_goto (tgt := 42) C dX11_inKey_38 (by decide) ?_
        rw [← ex10] at Kx10
        exact g_lv [(0, .ref (E.2.1 20)), (1, .int v1), (2, .int v2), (4, .int v4)] [0, 1, 2, 4] rfl Kx10
set_option maxRecDepth 100000 in
set_option maxHeartbeats 4000000 in
theorem c_X11_inKey (l : Launch) (E : EV) {σ : ST} {p0 : Int32} {p1 : Int32} {rr : Int32} (hf : f_X11_inKey σ p0 p1 = some rr) : CT l E yX11_inKey cX11_inKey 5 (some .int) rm_X11_inKey [.ref (E.2.1 20), .int p0, .int p1] σ (some (.int rr)) σ := by
  refine CT.of RX11 rfl (by decide) (Nat.le_of_ble_eq_true rfl) rfl rfl (fun Γ C hR => ?_)
  show GW Γ 5 E σ 0 [(0, .ref (E.2.1 20)), (1, .int p0), (2, .int p1)] []
  rw [f_X11_inKey] at hf
  refine g_iconst C dX11_inKey_0 (v := 0) (by decide) ?_
  refine g_istore_n C dX11_inKey_1 (by decide) [(3, .int 0), (0, .ref (E.2.1 20)), (1, .int p0), (2, .int p1)] rfl ?_
  refine g_iconst C dX11_inKey_2 (v := 0) (by decide) ?_
  refine g_istore C dX11_inKey_3 (by decide) [(4, .int 0), (3, .int 0), (0, .ref (E.2.1 20)), (1, .int p0), (2, .int p1)] rfl ?_
  exact g_lv [(0, .ref (E.2.1 20)), (1, .int p0), (2, .int p1), (3, .int 0), (4, .int 0)] [2, 3, 4, 1, 0] rfl (t_X11_inKey_L5 C hR fuel p0 p1 0 0 hf)
abbrev rm_X11_keyOf : Room := { frames := 2, cells := 0, slots := 0, locals := 46 }
set_option maxRecDepth 100000 in
set_option maxHeartbeats 4000000 in
theorem t_X11_keyOf_L4 {Γ : CX} {l : Launch} {E : EV} {σ : ST} {rr : Int32} (C : FX Γ l cX11_keyOf 4 RX11 rm_X11_keyOf E) (hR : RT Γ (some .int) E (some (.int rr)) σ) : ∀ (n : Nat) (v1 : Int32) (v2 : Int32) (v3 : Int32), f_X11_keyOf_L4 σ n v1 v2 v3 = some rr → GW Γ 4 E σ 4 [(0, .ref (E.2.1 20)), (1, .int v1), (2, .int v2), (3, .int v3)] [] := by
  intro n
  induction n with
  | zero => intro v1 v2 v3 hf; exact nomatch hf
  | succ n ih =>
    intro v1 v2 v3 hf
    rw [f_X11_keyOf_L4] at hf
    refine g_iload_n C 3 dX11_keyOf_4 rfl ?_
    refine g_bipush C dX11_keyOf_5 (v := 24) (by decide) ?_
    refine g_icmp_ge (tgt := 37) C dX11_keyOf_7 (by decide) (fun c1 => ?_) (fun c1 => ?_)
    · rw [if_pos c1] at hf
      refine g_iload_n C 2 dX11_keyOf_37 rfl ?_
      exact g_iretR C hR hf dX11_keyOf_38
    · rw [if_neg c1] at hf
      refine g_aload_n C 0 dX11_keyOf_10 rfl ?_
      refine g_iload_n C 1 dX11_keyOf_11 rfl ?_
      refine g_iload_n C 3 dX11_keyOf_12 rfl ?_
      obtain ⟨r3, h2, hf⟩ := o_bind hf
      refine g_callV C 20 (c_X11_inKey l E h2) cls_10 k_X11_155 ⟨rfl, rfl, Nat.le_of_ble_eq_true rfl, Nat.le_of_ble_eq_true rfl⟩ (by decide) rfl rfl (Nat.le_of_ble_eq_true rfl) dX11_keyOf_13 _ rfl ?_
      refine g_aload_n C 0 dX11_keyOf_16 rfl ?_
      refine g_iload_n C 1 dX11_keyOf_17 rfl ?_
      refine g_iload_n C 2 dX11_keyOf_18 rfl ?_
      obtain ⟨r5, h4, hf⟩ := o_bind hf
      refine g_callV C 20 (c_X11_inKey l E h4) cls_10 k_X11_155 ⟨rfl, rfl, Nat.le_of_ble_eq_true rfl, Nat.le_of_ble_eq_true rfl⟩ (by decide) rfl rfl (Nat.le_of_ble_eq_true rfl) dX11_keyOf_19 _ rfl ?_
      obtain ⟨x6, ex6, hf⟩ := o_let hf
      have Kx6 : GW Γ 4 E σ 30 [(0, .ref (E.2.1 20)), (1, .int v1), (3, .int v3)] [.int x6] := by
        refine g_istore_n C dX11_keyOf_30 (by decide) [(2, .int x6), (0, .ref (E.2.1 20)), (1, .int v1), (3, .int v3)] rfl ?_
        obtain ⟨x8, hx8, hf⟩ := o_let hf
        refine g_iinc C 3 dX11_keyOf_31 rfl hx8 (by decide) [(3, .int x8), (2, .int x6), (0, .ref (E.2.1 20)), (1, .int v1)] rfl ?_
        refine g_goto (tgt := 4) C dX11_keyOf_34 (by decide) ?_
        exact g_lv [(0, .ref (E.2.1 20)), (1, .int v1), (2, .int x6), (3, .int x8)] [2, 3, 1, 0] rfl (ih v1 x6 x8 hf)
      refine g_icmp_le (tgt := 29) C dX11_keyOf_22 (by decide) (fun c7 => ?_) (fun c7 => ?_)
      · rw [if_pos c7] at ex6
        refine g_iload_n C 2 dX11_keyOf_29 rfl ?_
        rw [← ex6] at Kx6
        exact g_lv [(0, .ref (E.2.1 20)), (1, .int v1), (3, .int v3)] [0, 1, 3] rfl Kx6
      · rw [if_neg c7] at ex6
        refine g_iload_n C 3 dX11_keyOf_25 rfl ?_
        refine g_goto (tgt := 30) C dX11_keyOf_26 (by decide) ?_
        rw [← ex6] at Kx6
        exact g_lv [(0, .ref (E.2.1 20)), (1, .int v1), (3, .int v3)] [0, 1, 3] rfl Kx6
set_option maxRecDepth 100000 in
set_option maxHeartbeats 4000000 in
theorem c_X11_keyOf (l : Launch) (E : EV) {σ : ST} {p0 : Int32} {rr : Int32} (hf : f_X11_keyOf σ p0 = some rr) : CT l E yX11_keyOf cX11_keyOf 4 (some .int) rm_X11_keyOf [.ref (E.2.1 20), .int p0] σ (some (.int rr)) σ := by
  refine CT.of RX11 rfl (by decide) (Nat.le_of_ble_eq_true rfl) rfl rfl (fun Γ C hR => ?_)
  show GW Γ 4 E σ 0 [(0, .ref (E.2.1 20)), (1, .int p0)] []
  rw [f_X11_keyOf] at hf
  refine g_iconst C dX11_keyOf_0 (v := 0) (by decide) ?_
  refine g_istore_n C dX11_keyOf_1 (by decide) [(2, .int 0), (0, .ref (E.2.1 20)), (1, .int p0)] rfl ?_
  refine g_iconst C dX11_keyOf_2 (v := 1) (by decide) ?_
  refine g_istore_n C dX11_keyOf_3 (by decide) [(3, .int 1), (2, .int 0), (0, .ref (E.2.1 20)), (1, .int p0)] rfl ?_
  exact g_lv [(0, .ref (E.2.1 20)), (1, .int p0), (2, .int 0), (3, .int 1)] [2, 3, 1, 0] rfl (t_X11_keyOf_L4 C hR fuel p0 0 1 hf)
abbrev rm_X11_notesOf : Room := { frames := 1, cells := 0, slots := 0, locals := 22 }
set_option maxRecDepth 100000 in
set_option maxHeartbeats 4000000 in
theorem t_X11_notesOf_L4 {Γ : CX} {l : Launch} {E : EV} {σ : ST} {rr : Int32} (C : FX Γ l cX11_notesOf 4 RX11 rm_X11_notesOf E) (hR : RT Γ (some .int) E (some (.int rr)) σ) : ∀ (n : Nat) (v1 : Int32) (v2 : Int32) (v3 : Int32), f_X11_notesOf_L4 σ n v1 v2 v3 = some rr → GW Γ 4 E σ 4 [(0, .ref (E.2.1 20)), (1, .int v1), (2, .int v2), (3, .int v3)] [] := by
  intro n
  induction n with
  | zero => intro v1 v2 v3 hf; exact nomatch hf
  | succ n ih =>
    intro v1 v2 v3 hf
    rw [f_X11_notesOf_L4] at hf
    refine g_iload_n C 3 dX11_notesOf_4 rfl ?_
    refine g_aload_n C 0 dX11_notesOf_5 rfl ?_
    refine g_iload_n C 1 dX11_notesOf_6 rfl ?_
    obtain ⟨r2, h1, hf⟩ := o_bind hf
    refine g_callV C 20 (c_X11_manyOf l E h1) cls_10 k_X11_141 ⟨rfl, rfl, Nat.le_of_ble_eq_true rfl, Nat.le_of_ble_eq_true rfl⟩ (by decide) rfl rfl (Nat.le_of_ble_eq_true rfl) dX11_notesOf_7 _ rfl ?_
    refine g_icmp_ge (tgt := 30) C dX11_notesOf_10 (by decide) (fun c3 => ?_) (fun c3 => ?_)
    · rw [if_pos c3] at hf
      refine g_iload_n C 2 dX11_notesOf_30 rfl ?_
      exact g_iretR C hR hf dX11_notesOf_31
    · rw [if_neg c3] at hf
      refine g_iload_n C 2 dX11_notesOf_13 rfl ?_
      refine g_iconst C dX11_notesOf_14 (v := 1) (by decide) ?_
      refine g_aload_n C 0 dX11_notesOf_15 rfl ?_
      refine g_iload_n C 1 dX11_notesOf_16 rfl ?_
      refine g_iload_n C 3 dX11_notesOf_17 rfl ?_
      obtain ⟨r5, h4, hf⟩ := o_bind hf
      refine g_callV C 20 (c_X11_noteAt l E h4) cls_10 k_X11_148 ⟨rfl, rfl, Nat.le_of_ble_eq_true rfl, Nat.le_of_ble_eq_true rfl⟩ (by decide) rfl rfl (Nat.le_of_ble_eq_true rfl) dX11_notesOf_18 _ rfl ?_
      refine g_ishl C dX11_notesOf_21 ?_
      refine g_ior C dX11_notesOf_22 ?_
      obtain ⟨x6, hx6, hf⟩ := o_let hf
      refine g_topi hx6 ?_
      refine g_istore_n C dX11_notesOf_23 (by decide) [(2, .int x6), (0, .ref (E.2.1 20)), (1, .int v1), (3, .int v3)] rfl ?_
      obtain ⟨x7, hx7, hf⟩ := o_let hf
      refine g_iinc C 3 dX11_notesOf_24 rfl hx7 (by decide) [(3, .int x7), (2, .int x6), (0, .ref (E.2.1 20)), (1, .int v1)] rfl ?_
      refine g_goto (tgt := 4) C dX11_notesOf_27 (by decide) ?_
      exact g_lv [(0, .ref (E.2.1 20)), (1, .int v1), (2, .int x6), (3, .int x7)] [2, 3, 1, 0] rfl (ih v1 x6 x7 hf)
set_option maxRecDepth 100000 in
set_option maxHeartbeats 4000000 in
theorem c_X11_notesOf (l : Launch) (E : EV) {σ : ST} {p0 : Int32} {rr : Int32} (hf : f_X11_notesOf σ p0 = some rr) : CT l E yX11_notesOf cX11_notesOf 4 (some .int) rm_X11_notesOf [.ref (E.2.1 20), .int p0] σ (some (.int rr)) σ := by
  refine CT.of RX11 rfl (by decide) (Nat.le_of_ble_eq_true rfl) rfl rfl (fun Γ C hR => ?_)
  show GW Γ 4 E σ 0 [(0, .ref (E.2.1 20)), (1, .int p0)] []
  rw [f_X11_notesOf] at hf
  refine g_iconst C dX11_notesOf_0 (v := 0) (by decide) ?_
  refine g_istore_n C dX11_notesOf_1 (by decide) [(2, .int 0), (0, .ref (E.2.1 20)), (1, .int p0)] rfl ?_
  refine g_iconst C dX11_notesOf_2 (v := 0) (by decide) ?_
  refine g_istore_n C dX11_notesOf_3 (by decide) [(3, .int 0), (2, .int 0), (0, .ref (E.2.1 20)), (1, .int p0)] rfl ?_
  exact g_lv [(0, .ref (E.2.1 20)), (1, .int p0), (2, .int 0), (3, .int 0)] [2, 3, 1, 0] rfl (t_X11_notesOf_L4 C hR fuel p0 0 0 hf)
abbrev rm_X11_tellTune : Room := { frames := 3, cells := 0, slots := 0, locals := 69 }
set_option maxRecDepth 100000 in
set_option maxHeartbeats 4000000 in
theorem t_X11_tellTune_B97 {Γ : CX} {l : Launch} {E : EV} {σ : ST} {rr : Int32} (C : FX Γ l cX11_tellTune 3 RX11 rm_X11_tellTune E) (hR : RT Γ (some .int) E (some (.int rr)) σ) (v1 : Int32) (hf : f_X11_tellTune_B97 σ v1 = some rr) : GW Γ 3 E σ 97 [(0, .ref (E.2.1 20)), (1, .int v1)] [.ref (E.2.1 26)] := by
  rw [f_X11_tellTune_B97] at hf
  refine g_aload_n C 0 dX11_tellTune_97 rfl ?_
  refine g_iload_n C 1 dX11_tellTune_98 rfl ?_
  obtain ⟨r10, h9, hf⟩ := o_bind hf
  refine g_callV C 20 (c_X11_manyOf l E h9) cls_10 k_X11_141 ⟨rfl, rfl, Nat.le_of_ble_eq_true rfl, Nat.le_of_ble_eq_true rfl⟩ (by decide) rfl rfl (Nat.le_of_ble_eq_true rfl) dX11_tellTune_99 _ rfl ?_
  obtain ⟨r12, h11, hf⟩ := o_bind hf
  refine g_callS C (c_X11_tritonesOf l E 26 8 ar_26 h11) k_X11_162 ⟨rfl, rfl, Nat.le_of_ble_eq_true rfl, Nat.le_of_ble_eq_true rfl⟩ rfl (Nat.le_of_ble_eq_true rfl) dX11_tellTune_102 _ rfl ?_
  exact g_iretR C hR hf dX11_tellTune_105
set_option maxRecDepth 100000 in
set_option maxHeartbeats 4000000 in
theorem t_X11_tellTune_B97_1 {Γ : CX} {l : Launch} {E : EV} {σ : ST} {rr : Int32} (C : FX Γ l cX11_tellTune 3 RX11 rm_X11_tellTune E) (hR : RT Γ (some .int) E (some (.int rr)) σ) (v1 : Int32) (hf : f_X11_tellTune_B97_1 σ v1 = some rr) : GW Γ 3 E σ 97 [(0, .ref (E.2.1 20)), (1, .int v1)] [.ref (E.2.1 25)] := by
  rw [f_X11_tellTune_B97_1] at hf
  refine g_aload_n C 0 dX11_tellTune_97 rfl ?_
  refine g_iload_n C 1 dX11_tellTune_98 rfl ?_
  obtain ⟨r14, h13, hf⟩ := o_bind hf
  refine g_callV C 20 (c_X11_manyOf l E h13) cls_10 k_X11_141 ⟨rfl, rfl, Nat.le_of_ble_eq_true rfl, Nat.le_of_ble_eq_true rfl⟩ (by decide) rfl rfl (Nat.le_of_ble_eq_true rfl) dX11_tellTune_99 _ rfl ?_
  obtain ⟨r16, h15, hf⟩ := o_bind hf
  refine g_callS C (c_X11_tritonesOf l E 25 8 ar_25 h15) k_X11_162 ⟨rfl, rfl, Nat.le_of_ble_eq_true rfl, Nat.le_of_ble_eq_true rfl⟩ rfl (Nat.le_of_ble_eq_true rfl) dX11_tellTune_102 _ rfl ?_
  exact g_iretR C hR hf dX11_tellTune_105
set_option maxRecDepth 100000 in
set_option maxHeartbeats 4000000 in
theorem c_X11_tellTune (l : Launch) (E : EV) {σ : ST} {p0 : Int32} {p1 : Int32} {rr : Int32} (hf : f_X11_tellTune σ p0 p1 = some rr) : CT l E yX11_tellTune cX11_tellTune 3 (some .int) rm_X11_tellTune [.ref (E.2.1 20), .int p0, .int p1] σ (some (.int rr)) σ := by
  refine CT.of RX11 rfl (by decide) (Nat.le_of_ble_eq_true rfl) rfl rfl (fun Γ C hR => ?_)
  show GW Γ 3 E σ 0 [(0, .ref (E.2.1 20)), (1, .int p0), (2, .int p1)] []
  rw [f_X11_tellTune] at hf
  refine g_iload_n C 2 dX11_tellTune_0 rfl ?_
  refine g_i2l C dX11_tellTune_1 ?_
  refine g_ldc2 C dX11_tellTune_2 (v := 10) kl_X11_158 ?_
  refine g_ldc2 C dX11_tellTune_5 (v := 17) kl_X11_160 ?_
  obtain ⟨r2, h1, hf⟩ := o_bind hf
  refine g_callS C (c_X11_in l E h1) k_X11_73 ⟨rfl, rfl, Nat.le_of_ble_eq_true rfl, Nat.le_of_ble_eq_true rfl⟩ rfl (Nat.le_of_ble_eq_true rfl) dX11_tellTune_8 _ rfl ?_
  refine g_if_eq (y := 0) (tgt := 40) C dX11_tellTune_11 (by decide) (fun c3 => ?_) (fun c3 => ?_)
  · rw [if_pos c3] at hf
    refine g_iload_n C 2 dX11_tellTune_40 rfl ?_
    by_cases c4 : p1 = 0
    · rw [if_pos c4] at hf
      refine g_tabIn C 0 (tgt := 76) dX11_tellTune_41 c4 (by decide) (by decide) rfl (by decide) ?_
      refine g_aload_n C 0 dX11_tellTune_76 rfl ?_
      refine g_iload_n C 1 dX11_tellTune_77 rfl ?_
      obtain ⟨r6, h5, hf⟩ := o_bind hf
      refine g_callV C 20 (c_X11_manyOf l E h5) cls_10 k_X11_141 ⟨rfl, rfl, Nat.le_of_ble_eq_true rfl, Nat.le_of_ble_eq_true rfl⟩ (by decide) rfl rfl (Nat.le_of_ble_eq_true rfl) dX11_tellTune_78 _ rfl ?_
      exact g_iretR C hR hf dX11_tellTune_81
    rw [if_neg c4] at hf
    by_cases c7 : p1 = 1
    · rw [if_pos c7] at hf
      refine g_tabIn C 1 (tgt := 82) dX11_tellTune_41 c7 (by decide) (by decide) rfl (by decide) ?_
      refine g_iload_n C 1 dX11_tellTune_82 rfl ?_
      refine g_if_ne (y := 0) (tgt := 93) C dX11_tellTune_83 (by decide) (fun c8 => ?_) (fun c8 => ?_)
      · rw [if_neg c8] at hf
        refine g_aload_n C 0 dX11_tellTune_93 rfl ?_
        refine fg_X11_25_20 C dX11_tellTune_94 ?_
        exact g_lv [(0, .ref (E.2.1 20)), (1, .int p0)] [0, 1] rfl (t_X11_tellTune_B97 C hR p0 hf)
      · rw [if_pos c8] at hf
        refine g_aload_n C 0 dX11_tellTune_86 rfl ?_
        refine fg_X11_22_20 C dX11_tellTune_87 ?_
        refine g_goto (tgt := 97) C dX11_tellTune_90 (by decide) ?_
        exact g_lv [(0, .ref (E.2.1 20)), (1, .int p0)] [0, 1] rfl (t_X11_tellTune_B97_1 C hR p0 hf)
    rw [if_neg c7] at hf
    by_cases c17 : p1 = 2
    · rw [if_pos c17] at hf
      refine g_tabIn C 2 (tgt := 106) dX11_tellTune_41 c17 (by decide) (by decide) rfl (by decide) ?_
      refine g_aload_n C 0 dX11_tellTune_106 rfl ?_
      refine g_iload_n C 1 dX11_tellTune_107 rfl ?_
      obtain ⟨r19, h18, hf⟩ := o_bind hf
      refine g_callV C 20 (c_X11_keyOf l E h18) cls_10 k_X11_166 ⟨rfl, rfl, Nat.le_of_ble_eq_true rfl, Nat.le_of_ble_eq_true rfl⟩ (by decide) rfl rfl (Nat.le_of_ble_eq_true rfl) dX11_tellTune_108 _ rfl ?_
      exact g_iretR C hR hf dX11_tellTune_111
    rw [if_neg c17] at hf
    by_cases c20 : p1 = 3
    · rw [if_pos c20] at hf
      refine g_tabIn C 3 (tgt := 112) dX11_tellTune_41 c20 (by decide) (by decide) rfl (by decide) ?_
      refine g_aload_n C 0 dX11_tellTune_112 rfl ?_
      refine g_iload_n C 1 dX11_tellTune_113 rfl ?_
      refine g_aload_n C 0 dX11_tellTune_114 rfl ?_
      refine g_iload_n C 1 dX11_tellTune_115 rfl ?_
      obtain ⟨r22, h21, hf⟩ := o_bind hf
      refine g_callV C 20 (c_X11_keyOf l E h21) cls_10 k_X11_166 ⟨rfl, rfl, Nat.le_of_ble_eq_true rfl, Nat.le_of_ble_eq_true rfl⟩ (by decide) rfl rfl (Nat.le_of_ble_eq_true rfl) dX11_tellTune_116 _ rfl ?_
      obtain ⟨r24, h23, hf⟩ := o_bind hf
      refine g_callV C 20 (c_X11_inKey l E h23) cls_10 k_X11_155 ⟨rfl, rfl, Nat.le_of_ble_eq_true rfl, Nat.le_of_ble_eq_true rfl⟩ (by decide) rfl rfl (Nat.le_of_ble_eq_true rfl) dX11_tellTune_119 _ rfl ?_
      exact g_iretR C hR hf dX11_tellTune_122
    rw [if_neg c20] at hf
    by_cases c25 : p1 = 4
    · rw [if_pos c25] at hf
      refine g_tabIn C 4 (tgt := 123) dX11_tellTune_41 c25 (by decide) (by decide) rfl (by decide) ?_
      refine g_aload_n C 0 dX11_tellTune_123 rfl ?_
      refine g_iload_n C 1 dX11_tellTune_124 rfl ?_
      obtain ⟨r27, h26, hf⟩ := o_bind hf
      refine g_callV C 20 (c_X11_notesOf l E h26) cls_10 k_X11_169 ⟨rfl, rfl, Nat.le_of_ble_eq_true rfl, Nat.le_of_ble_eq_true rfl⟩ (by decide) rfl rfl (Nat.le_of_ble_eq_true rfl) dX11_tellTune_125 _ rfl ?_
      exact g_iretR C hR hf dX11_tellTune_128
    rw [if_neg c25] at hf
    refine g_tabOut (tgt := 129) C dX11_tellTune_41 (by have qc4 := lv_neT c4 (show (0 : Int32).toInt = 0 by decide); have qc7 := lv_neT c7 (show (1 : Int32).toInt = 1 by decide); have qc17 := lv_neT c17 (show (2 : Int32).toInt = 2 by decide); have qc20 := lv_neT c20 (show (3 : Int32).toInt = 3 by decide); have qc25 := lv_neT c25 (show (4 : Int32).toInt = 4 by decide); omega) (by decide) ?_
    refine g_bipush C dX11_tellTune_129 (v := (-102)) (by decide) ?_
    exact g_iretR C hR hf dX11_tellTune_131
  · rw [if_neg c3] at hf
    refine g_iload_n C 2 dX11_tellTune_14 rfl ?_
    refine g_bipush C dX11_tellTune_15 (v := 10) (by decide) ?_
    refine g_isub C dX11_tellTune_17 ?_
    refine g_aload_n C 0 dX11_tellTune_18 rfl ?_
    refine g_iload_n C 1 dX11_tellTune_19 rfl ?_
    obtain ⟨r29, h28, hf⟩ := o_bind hf
    refine g_callV C 20 (c_X11_manyOf l E h28) cls_10 k_X11_141 ⟨rfl, rfl, Nat.le_of_ble_eq_true rfl, Nat.le_of_ble_eq_true rfl⟩ (by decide) rfl rfl (Nat.le_of_ble_eq_true rfl) dX11_tellTune_20 _ rfl ?_
    refine g_icmp_ge (tgt := 38) C dX11_tellTune_23 (by decide) (fun c30 => ?_) (fun c30 => ?_)
    · rw [if_pos c30] at hf
      refine g_iconst C dX11_tellTune_38 (v := (-1)) (by decide) ?_
      exact g_iretR C hR hf dX11_tellTune_39
    · rw [if_neg c30] at hf
      refine g_aload_n C 0 dX11_tellTune_26 rfl ?_
      refine g_iload_n C 1 dX11_tellTune_27 rfl ?_
      refine g_iload_n C 2 dX11_tellTune_28 rfl ?_
      refine g_bipush C dX11_tellTune_29 (v := 10) (by decide) ?_
      refine g_isub C dX11_tellTune_31 ?_
      obtain ⟨r32, h31, hf⟩ := o_bind hf
      refine g_callV C 20 (c_X11_noteAt l E h31) cls_10 k_X11_148 ⟨rfl, rfl, Nat.le_of_ble_eq_true rfl, Nat.le_of_ble_eq_true rfl⟩ (by decide) rfl rfl (Nat.le_of_ble_eq_true rfl) dX11_tellTune_32 _ rfl ?_
      refine g_goto (tgt := 39) C dX11_tellTune_35 (by decide) ?_
      exact g_iretR C hR hf dX11_tellTune_39
abbrev rm_X11_told : Room := { frames := 4, cells := 0, slots := 0, locals := 91 }
set_option maxRecDepth 100000 in
set_option maxHeartbeats 4000000 in
theorem c_X11_told (l : Launch) (E : EV) {σ : ST} {p0 : Int32} {p1 : Int32} {rr : Int32} (hf : f_X11_told σ p0 p1 = some rr) : CT l E yX11_told cX11_told 3 (some .int) rm_X11_told [.ref (E.2.1 20), .int p0, .int p1] σ (some (.int rr)) σ := by
  refine CT.of RX11 rfl (by decide) (Nat.le_of_ble_eq_true rfl) rfl rfl (fun Γ C hR => ?_)
  show GW Γ 3 E σ 0 [(0, .ref (E.2.1 20)), (1, .int p0), (2, .int p1)] []
  rw [f_X11_told] at hf
  refine g_aload_n C 0 dX11_told_0 rfl ?_
  refine g_iload_n C 1 dX11_told_1 rfl ?_
  obtain ⟨r2, h1, hf⟩ := o_bind hf
  refine g_callV C 20 (c_X11_isTune l E h1) cls_10 k_X11_172 ⟨rfl, rfl, Nat.le_of_ble_eq_true rfl, Nat.le_of_ble_eq_true rfl⟩ (by decide) rfl rfl (Nat.le_of_ble_eq_true rfl) dX11_told_2 _ rfl ?_
  refine g_if_eq (y := 0) (tgt := 17) C dX11_told_5 (by decide) (fun c3 => ?_) (fun c3 => ?_)
  · rw [if_pos c3] at hf
    refine g_bipush C dX11_told_17 (v := (-101)) (by decide) ?_
    exact g_iretR C hR hf dX11_told_19
  · rw [if_neg c3] at hf
    refine g_aload_n C 0 dX11_told_8 rfl ?_
    refine g_iload_n C 1 dX11_told_9 rfl ?_
    refine g_iload_n C 2 dX11_told_10 rfl ?_
    obtain ⟨r5, h4, hf⟩ := o_bind hf
    refine g_callV C 20 (c_X11_tellTune l E h4) cls_10 k_X11_175 ⟨rfl, rfl, Nat.le_of_ble_eq_true rfl, Nat.le_of_ble_eq_true rfl⟩ (by decide) rfl rfl (Nat.le_of_ble_eq_true rfl) dX11_told_11 _ rfl ?_
    refine g_goto (tgt := 19) C dX11_told_14 (by decide) ?_
    exact g_iretR C hR hf dX11_told_19
abbrev rm_X11_lowered : Room := { frames := 1, cells := 0, slots := 0, locals := 21 }
set_option maxRecDepth 100000 in
set_option maxHeartbeats 4000000 in
theorem t_X11_lowered_B23 {Γ : CX} {l : Launch} {E : EV} {σ : ST} {rr : Int32} (C : FX Γ l cX11_lowered 3 RX11 rm_X11_lowered E) (hR : RT Γ (some .int) E (some (.int rr)) σ) (v0 : Int32) (hf : f_X11_lowered_B23 v0 = some rr) : GW Γ 3 E σ 23 [(0, .int v0)] [] := by
  rw [f_X11_lowered_B23] at hf
  refine g_iload_n C 0 dX11_lowered_23 rfl ?_
  refine g_iconst C dX11_lowered_24 (v := 1) (by decide) ?_
  obtain ⟨r5, h4, hf⟩ := o_bind hf
  refine g_callS C (c_X11_above l E h4) k_X11_144 ⟨rfl, rfl, Nat.le_of_ble_eq_true rfl, Nat.le_of_ble_eq_true rfl⟩ rfl (Nat.le_of_ble_eq_true rfl) dX11_lowered_25 _ rfl ?_
  refine g_goto (tgt := 32) C dX11_lowered_28 (by decide) ?_
  exact g_iretR C hR hf dX11_lowered_32
set_option maxRecDepth 100000 in
set_option maxHeartbeats 4000000 in
theorem c_X11_lowered (l : Launch) (E : EV) {σ : ST} {p0 : Int32} {p1 : Int32} {rr : Int32} (hf : f_X11_lowered p0 p1 = some rr) : CT l E yX11_lowered cX11_lowered 3 (some .int) rm_X11_lowered [.int p0, .int p1] σ (some (.int rr)) σ := by
  refine CT.of RX11 rfl (by decide) (Nat.le_of_ble_eq_true rfl) rfl rfl (fun Γ C hR => ?_)
  show GW Γ 3 E σ 0 [(0, .int p0), (1, .int p1)] []
  rw [f_X11_lowered] at hf
  refine g_iload_n C 0 dX11_lowered_0 rfl ?_
  refine g_iload_n C 1 dX11_lowered_1 rfl ?_
  obtain ⟨r2, h1, hf⟩ := o_bind hf
  refine g_callS C (c_X11_above l E h1) k_X11_144 ⟨rfl, rfl, Nat.le_of_ble_eq_true rfl, Nat.le_of_ble_eq_true rfl⟩ rfl (Nat.le_of_ble_eq_true rfl) dX11_lowered_2 _ rfl ?_
  refine g_istore_n C dX11_lowered_5 (by decide) [(2, .int r2), (0, .int p0), (1, .int p1)] rfl ?_
  refine g_iload_n C 0 dX11_lowered_6 rfl ?_
  refine g_iconst C dX11_lowered_7 (v := 4) (by decide) ?_
  refine g_icmp_eq (tgt := 23) C dX11_lowered_8 (by decide) (fun c3 => ?_) (fun c3 => ?_)
  · rw [if_pos c3] at hf
    exact g_lv [(0, .int p0)] [1] rfl (t_X11_lowered_B23 C hR p0 hf)
  · rw [if_neg c3] at hf
    refine g_iload_n C 0 dX11_lowered_11 rfl ?_
    refine g_bipush C dX11_lowered_12 (v := 9) (by decide) ?_
    refine g_icmp_eq (tgt := 23) C dX11_lowered_14 (by decide) (fun c6 => ?_) (fun c6 => ?_)
    · rw [if_pos c6] at hf
      exact g_lv [(0, .int p0)] [1] rfl (t_X11_lowered_B23 C hR p0 hf)
    · rw [if_neg c6] at hf
      refine g_iload_n C 0 dX11_lowered_17 rfl ?_
      refine g_bipush C dX11_lowered_18 (v := 11) (by decide) ?_
      refine g_icmp_ne (tgt := 31) C dX11_lowered_20 (by decide) (fun c7 => ?_) (fun c7 => ?_)
      · rw [if_neg c7] at hf
        refine g_iload_n C 1 dX11_lowered_31 rfl ?_
        exact g_iretR C hR hf dX11_lowered_32
      · rw [if_pos c7] at hf
        exact g_lv [(0, .int p0)] [1] rfl (t_X11_lowered_B23 C hR p0 hf)
abbrev rm_X11_go : Room := { frames := 2, cells := 0, slots := 0, locals := 43 }
set_option maxRecDepth 100000 in
set_option maxHeartbeats 4000000 in
theorem t_X11_go_B101 {Γ : CX} {l : Launch} {E : EV} {o2 : Nat} {n2 : Nat} {ss : ST} (C : FX Γ l cX11_go 6 RX11 rm_X11_go E) (hR : RT Γ none E none ss) (hA2 : ARY o2 n2) (v0 : Int32) (v1 : Int32) (v3 : Int32) (σ : ST) (hf : f_X11_go_B101 o2 n2 v0 v1 v3 σ = some ss) : GW Γ 6 E σ 101 [(0, .int v0), (1, .int v1), (2, .ref (E.2.1 o2)), (3, .int v3)] [] := by
  rw [f_X11_go_B101] at hf
  refine g_aload_n C 2 dX11_go_101 rfl ?_
  refine g_iload_n C 3 dX11_go_102 rfl ?_
  refine g_iconst C dX11_go_103 (v := 1) (by decide) ?_
  refine g_isub C dX11_go_104 ?_
  obtain ⟨h2, hf⟩ := o_if hf
  refine g_ald C hA2 dX11_go_105 (k := (v3 - 1).toNatClampNeg) rfl h2 ?_
  obtain ⟨x3, hx3, hf⟩ := o_let hf
  refine g_topi hx3 ?_
  refine g_istore C dX11_go_106 (by decide) [(4, .int x3), (0, .int v0), (1, .int v1), (2, .ref (E.2.1 o2)), (3, .int v3)] rfl ?_
  refine g_iload_n C 1 dX11_go_108 rfl ?_
  refine g_iconst C dX11_go_109 (v := 4) (by decide) ?_
  refine g_icmp_ne (tgt := 135) C dX11_go_110 (by decide) (fun c4 => ?_) (fun c4 => ?_)
  · rw [if_neg c4] at hf
    exact g_vretW C hR hf dX11_go_135
  · rw [if_pos c4] at hf
    refine g_iload C 0 dX11_go_113 rfl ?_
    refine g_iload_n C 2 dX11_go_115 rfl ?_
    obtain ⟨r6, h5, hf⟩ := o_bind hf
    refine g_callS C (c_X11_above l E h5) k_X11_144 ⟨rfl, rfl, Nat.le_of_ble_eq_true rfl, Nat.le_of_ble_eq_true rfl⟩ rfl (Nat.le_of_ble_eq_true rfl) dX11_go_116 _ rfl ?_
    refine g_iconst C dX11_go_119 (v := 3) (by decide) ?_
    refine g_icmp_ne (tgt := 135) C dX11_go_120 (by decide) (fun c7 => ?_) (fun c7 => ?_)
    · rw [if_neg c7] at hf
      exact g_vretW C hR hf dX11_go_135
    · rw [if_pos c7] at hf
      refine g_aload_n C 3 dX11_go_123 rfl ?_
      refine g_iload_n C 4 dX11_go_124 rfl ?_
      refine g_iconst C dX11_go_125 (v := 1) (by decide) ?_
      refine g_isub C dX11_go_126 ?_
      refine g_iload C 0 dX11_go_127 rfl ?_
      refine g_iconst C dX11_go_129 (v := 1) (by decide) ?_
      refine g_iadd C dX11_go_130 ?_
      refine g_bipush C dX11_go_131 (v := 12) (by decide) ?_
      refine g_irem C dX11_go_133 (by decide) ?_
      obtain ⟨h9, hf⟩ := o_if hf
      obtain ⟨σ8, hσ8, hf⟩ := o_let hf
      refine g_ast C hA2 dX11_go_134 (k := (v3 - 1).toNatClampNeg) rfl h9 hσ8 ?_
      exact g_vretW C hR hf dX11_go_135
set_option maxRecDepth 100000 in
set_option maxHeartbeats 4000000 in
theorem t_X11_go_L3 {Γ : CX} {l : Launch} {E : EV} {o2 : Nat} {n2 : Nat} {ss : ST} (C : FX Γ l cX11_go 6 RX11 rm_X11_go E) (hR : RT Γ none E none ss) (hA2 : ARY o2 n2) : ∀ (n : Nat) (v0 : Int32) (v1 : Int32) (v3 : Int32) (v4 : Int32) (σ : ST), f_X11_go_L3 o2 n2 n v0 v1 v3 v4 σ = some ss → GW Γ 6 E σ 3 [(0, .int v0), (1, .int v1), (2, .ref (E.2.1 o2)), (3, .int v3), (4, .int v4)] [] := by
  intro n
  induction n with
  | zero => intro v0 v1 v3 v4 σ hf; exact nomatch hf
  | succ n ih =>
    intro v0 v1 v3 v4 σ hf
    rw [f_X11_go_L3] at hf
    refine g_iload C 4 dX11_go_3 rfl ?_
    refine g_iload_n C 3 dX11_go_5 rfl ?_
    refine g_icmp_ge (tgt := 101) C dX11_go_6 (by decide) (fun c1 => ?_) (fun c1 => ?_)
    · rw [if_pos c1] at hf
      exact g_lv [(0, .int v0), (1, .int v1), (2, .ref (E.2.1 o2)), (3, .int v3)] [0, 1, 2, 3] rfl (t_X11_go_B101 C hR hA2 v0 v1 v3 σ hf)
    · rw [if_neg c1] at hf
      refine g_aload_n C 2 dX11_go_9 rfl ?_
      refine g_iload C 4 dX11_go_10 rfl ?_
      obtain ⟨h10, hf⟩ := o_if hf
      refine g_ald C hA2 dX11_go_12 (k := v4.toNatClampNeg) rfl h10 ?_
      obtain ⟨x11, hx11, hf⟩ := o_let hf
      refine g_topi hx11 ?_
      refine g_istore C dX11_go_13 (by decide) [(5, .int x11), (0, .int v0), (1, .int v1), (2, .ref (E.2.1 o2)), (3, .int v3), (4, .int v4)] rfl ?_
      refine g_iload_n C 1 dX11_go_15 rfl ?_
      by_cases c12 : v0 = 1
      · rw [if_pos c12] at hf
        refine g_tabIn C 1 (tgt := 48) dX11_go_16 c12 (by decide) (by decide) rfl (by decide) ?_
        refine g_aload_n C 3 dX11_go_48 rfl ?_
        refine g_iload C 5 dX11_go_49 rfl ?_
        refine g_iload C 0 dX11_go_51 rfl ?_
        refine g_iload_n C 2 dX11_go_53 rfl ?_
        obtain ⟨r14, h13, hf⟩ := o_bind hf
        refine g_callS C (c_X11_lowered l E h13) k_X11_178 ⟨rfl, rfl, Nat.le_of_ble_eq_true rfl, Nat.le_of_ble_eq_true rfl⟩ rfl (Nat.le_of_ble_eq_true rfl) dX11_go_54 _ rfl ?_
        obtain ⟨h16, hf⟩ := o_if hf
        obtain ⟨σ15, hσ15, hf⟩ := o_let hf
        refine g_ast C hA2 dX11_go_57 (k := v4.toNatClampNeg) rfl h16 hσ15 ?_
        refine g_goto (tgt := 95) C dX11_go_58 (by decide) ?_
        obtain ⟨x17, hx17, hf⟩ := o_let hf
        refine g_iinc C 5 dX11_go_95 rfl hx17 (by decide) [(4, .int x17), (5, .int x11), (0, .int v0), (1, .int v1), (2, .ref (E.2.1 o2)), (3, .int v3)] rfl ?_
        refine g_goto (tgt := 3) C dX11_go_98 (by decide) ?_
        exact g_lv [(0, .int v0), (1, .int v1), (2, .ref (E.2.1 o2)), (3, .int v3), (4, .int x17)] [2, 3, 4, 5, 0] rfl (ih v0 v1 v3 x17 σ15 hf)
      rw [if_neg c12] at hf
      by_cases c18 : v0 = 2
      · rw [if_pos c18] at hf
        refine g_tabIn C 2 (tgt := 61) dX11_go_16 c18 (by decide) (by decide) rfl (by decide) ?_
        refine g_aload_n C 3 dX11_go_61 rfl ?_
        refine g_iload C 5 dX11_go_62 rfl ?_
        refine g_iload_n C 2 dX11_go_64 rfl ?_
        refine g_iload C 0 dX11_go_65 rfl ?_
        obtain ⟨r20, h19, hf⟩ := o_bind hf
        refine g_callS C (c_X11_above l E h19) k_X11_144 ⟨rfl, rfl, Nat.le_of_ble_eq_true rfl, Nat.le_of_ble_eq_true rfl⟩ rfl (Nat.le_of_ble_eq_true rfl) dX11_go_67 _ rfl ?_
        obtain ⟨h22, hf⟩ := o_if hf
        obtain ⟨σ21, hσ21, hf⟩ := o_let hf
        refine g_ast C hA2 dX11_go_70 (k := v4.toNatClampNeg) rfl h22 hσ21 ?_
        refine g_goto (tgt := 95) C dX11_go_71 (by decide) ?_
        obtain ⟨x23, hx23, hf⟩ := o_let hf
        refine g_iinc C 5 dX11_go_95 rfl hx23 (by decide) [(4, .int x23), (5, .int x11), (0, .int v0), (1, .int v1), (2, .ref (E.2.1 o2)), (3, .int v3)] rfl ?_
        refine g_goto (tgt := 3) C dX11_go_98 (by decide) ?_
        exact g_lv [(0, .int v0), (1, .int v1), (2, .ref (E.2.1 o2)), (3, .int v3), (4, .int x23)] [2, 3, 4, 5, 0] rfl (ih v0 v1 v3 x23 σ21 hf)
      rw [if_neg c18] at hf
      by_cases c24 : v0 = 3
      · rw [if_pos c24] at hf
        refine g_tabIn C 3 (tgt := 74) dX11_go_16 c24 (by decide) (by decide) rfl (by decide) ?_
        refine g_aload_n C 3 dX11_go_74 rfl ?_
        refine g_iload C 5 dX11_go_75 rfl ?_
        refine g_aload_n C 3 dX11_go_77 rfl ?_
        refine g_iconst C dX11_go_78 (v := 0) (by decide) ?_
        obtain ⟨h25, hf⟩ := o_if hf
        refine g_ald C hA2 dX11_go_79 (k := 0) (by decide) h25 ?_
        obtain ⟨h27, hf⟩ := o_if hf
        obtain ⟨σ26, hσ26, hf⟩ := o_let hf
        refine g_ast C hA2 dX11_go_80 (k := v4.toNatClampNeg) rfl h27 hσ26 ?_
        refine g_goto (tgt := 95) C dX11_go_81 (by decide) ?_
        obtain ⟨x28, hx28, hf⟩ := o_let hf
        refine g_iinc C 5 dX11_go_95 rfl hx28 (by decide) [(4, .int x28), (5, .int x11), (0, .int v0), (1, .int v1), (2, .ref (E.2.1 o2)), (3, .int v3)] rfl ?_
        refine g_goto (tgt := 3) C dX11_go_98 (by decide) ?_
        exact g_lv [(0, .int v0), (1, .int v1), (2, .ref (E.2.1 o2)), (3, .int v3), (4, .int x28)] [2, 3, 4, 5, 0] rfl (ih v0 v1 v3 x28 σ26 hf)
      rw [if_neg c24] at hf
      by_cases c29 : v0 = 4
      · rw [if_pos c29] at hf
        refine g_tabIn C 4 (tgt := 48) dX11_go_16 c29 (by decide) (by decide) rfl (by decide) ?_
        refine g_aload_n C 3 dX11_go_48 rfl ?_
        refine g_iload C 5 dX11_go_49 rfl ?_
        refine g_iload C 0 dX11_go_51 rfl ?_
        refine g_iload_n C 2 dX11_go_53 rfl ?_
        obtain ⟨r31, h30, hf⟩ := o_bind hf
        refine g_callS C (c_X11_lowered l E h30) k_X11_178 ⟨rfl, rfl, Nat.le_of_ble_eq_true rfl, Nat.le_of_ble_eq_true rfl⟩ rfl (Nat.le_of_ble_eq_true rfl) dX11_go_54 _ rfl ?_
        obtain ⟨h33, hf⟩ := o_if hf
        obtain ⟨σ32, hσ32, hf⟩ := o_let hf
        refine g_ast C hA2 dX11_go_57 (k := v4.toNatClampNeg) rfl h33 hσ32 ?_
        refine g_goto (tgt := 95) C dX11_go_58 (by decide) ?_
        obtain ⟨x34, hx34, hf⟩ := o_let hf
        refine g_iinc C 5 dX11_go_95 rfl hx34 (by decide) [(4, .int x34), (5, .int x11), (0, .int v0), (1, .int v1), (2, .ref (E.2.1 o2)), (3, .int v3)] rfl ?_
        refine g_goto (tgt := 3) C dX11_go_98 (by decide) ?_
        exact g_lv [(0, .int v0), (1, .int v1), (2, .ref (E.2.1 o2)), (3, .int v3), (4, .int x34)] [2, 3, 4, 5, 0] rfl (ih v0 v1 v3 x34 σ32 hf)
      rw [if_neg c29] at hf
      refine g_tabOut (tgt := 84) C dX11_go_16 (by have qc12 := lv_neT c12 (show (1 : Int32).toInt = 1 by decide); have qc18 := lv_neT c18 (show (2 : Int32).toInt = 2 by decide); have qc24 := lv_neT c24 (show (3 : Int32).toInt = 3 by decide); have qc29 := lv_neT c29 (show (4 : Int32).toInt = 4 by decide); omega) (by decide) ?_
      refine g_aload_n C 3 dX11_go_84 rfl ?_
      refine g_iload C 5 dX11_go_85 rfl ?_
      refine g_iload C 0 dX11_go_87 rfl ?_
      refine g_iload_n C 2 dX11_go_89 rfl ?_
      refine g_iadd C dX11_go_90 ?_
      refine g_bipush C dX11_go_91 (v := 12) (by decide) ?_
      refine g_irem C dX11_go_93 (by decide) ?_
      obtain ⟨h36, hf⟩ := o_if hf
      obtain ⟨σ35, hσ35, hf⟩ := o_let hf
      refine g_ast C hA2 dX11_go_94 (k := v4.toNatClampNeg) rfl h36 hσ35 ?_
      obtain ⟨x37, hx37, hf⟩ := o_let hf
      refine g_iinc C 5 dX11_go_95 rfl hx37 (by decide) [(4, .int x37), (5, .int x11), (0, .int v0), (1, .int v1), (2, .ref (E.2.1 o2)), (3, .int v3)] rfl ?_
      refine g_goto (tgt := 3) C dX11_go_98 (by decide) ?_
      exact g_lv [(0, .int v0), (1, .int v1), (2, .ref (E.2.1 o2)), (3, .int v3), (4, .int x37)] [2, 3, 4, 5, 0] rfl (ih v0 v1 v3 x37 σ35 hf)
set_option maxRecDepth 100000 in
set_option maxHeartbeats 4000000 in
theorem c_X11_go (l : Launch) (E : EV) (o2 : Nat) (n2 : Nat) {σ ss : ST} (hA2 : ARY o2 n2) {p0 : Int32} {p1 : Int32} {p3 : Int32} (hf : f_X11_go o2 n2 p0 p1 p3 σ = some ss) : CT l E yX11_go cX11_go 6 none rm_X11_go [.int p0, .int p1, .ref (E.2.1 o2), .int p3] σ none ss := by
  refine CT.of RX11 rfl (by decide) (Nat.le_of_ble_eq_true rfl) rfl rfl (fun Γ C hR => ?_)
  show GW Γ 6 E σ 0 [(0, .int p0), (1, .int p1), (2, .ref (E.2.1 o2)), (3, .int p3)] []
  rw [f_X11_go] at hf
  refine g_iconst C dX11_go_0 (v := 0) (by decide) ?_
  refine g_istore C dX11_go_1 (by decide) [(4, .int 0), (0, .int p0), (1, .int p1), (2, .ref (E.2.1 o2)), (3, .int p3)] rfl ?_
  exact g_lv [(0, .int p0), (1, .int p1), (2, .ref (E.2.1 o2)), (3, .int p3), (4, .int 0)] [1, 2, 3, 4, 0] rfl (t_X11_go_L3 C hR hA2 fuel p0 p1 p3 0 σ hf)
abbrev rm_X11_comesOut : Room := { frames := 3, cells := 0, slots := 0, locals := 68 }
set_option maxRecDepth 100000 in
set_option maxHeartbeats 4000000 in
theorem c_X11_comesOut (l : Launch) (E : EV) {σ ss : ST} {p0 : Int32} {p1 : Int32} {p2 : Int32} {rr : Int32} (hf : f_X11_comesOut p0 p1 p2 σ = some (rr, ss)) : CT l E yX11_comesOut cX11_comesOut 4 (some .int) rm_X11_comesOut [.ref (E.2.1 20), .int p0, .int p1, .int p2] σ (some (.int rr)) ss := by
  refine CT.of RX11 rfl (by decide) (Nat.le_of_ble_eq_true rfl) rfl rfl (fun Γ C hR => ?_)
  show GW Γ 4 E σ 0 [(0, .ref (E.2.1 20)), (1, .int p0), (2, .int p1), (3, .int p2)] []
  rw [f_X11_comesOut] at hf
  refine g_aload_n C 0 dX11_comesOut_0 rfl ?_
  refine fg_X11_28_20 C dX11_comesOut_1 ?_
  refine g_iconst C dX11_comesOut_4 (v := 0) (by decide) ?_
  refine g_iload_n C 3 dX11_comesOut_5 rfl ?_
  obtain ⟨σ1, hσ1, hf⟩ := o_let hf
  refine g_ast C ar_27 dX11_comesOut_6 (k := 0) (by decide) (by decide) hσ1 ?_
  refine g_iload_n C 1 dX11_comesOut_7 rfl ?_
  refine g_iload_n C 2 dX11_comesOut_8 rfl ?_
  refine g_aload_n C 0 dX11_comesOut_9 rfl ?_
  refine fg_X11_28_20 C dX11_comesOut_10 ?_
  refine g_iconst C dX11_comesOut_13 (v := 1) (by decide) ?_
  obtain ⟨σ3, h2, hf⟩ := o_bind hf
  refine g_callS C (c_X11_go l E 27 8 ar_27 h2) k_X11_181 ⟨rfl, rfl, Nat.le_of_ble_eq_true rfl, Nat.le_of_ble_eq_true rfl⟩ rfl (Nat.le_of_ble_eq_true rfl) dX11_comesOut_14 _ rfl ?_
  refine g_aload_n C 0 dX11_comesOut_17 rfl ?_
  refine fg_X11_28_20 C dX11_comesOut_18 ?_
  refine g_iconst C dX11_comesOut_21 (v := 0) (by decide) ?_
  refine g_ald C ar_27 dX11_comesOut_22 (k := 0) (by decide) (by decide) ?_
  exact g_iretW C hR hf dX11_comesOut_23
abbrev rm_X11_goStreet : Room := { frames := 3, cells := 0, slots := 0, locals := 68 }
set_option maxRecDepth 100000 in
set_option maxHeartbeats 4000000 in
theorem c_X11_goStreet (l : Launch) (E : EV) (o1 : Nat) (n1 : Nat) {σ ss : ST} (hA1 : ARY o1 n1) {p0 : Int32} {p2 : Int32} (hf : f_X11_goStreet o1 n1 p0 p2 σ = some ss) : CT l E yX11_goStreet cX11_goStreet 4 none rm_X11_goStreet [.ref (E.2.1 20), .int p0, .ref (E.2.1 o1), .int p2] σ none ss := by
  refine CT.of RX11 rfl (by decide) (Nat.le_of_ble_eq_true rfl) rfl rfl (fun Γ C hR => ?_)
  show GW Γ 4 E σ 0 [(0, .ref (E.2.1 20)), (1, .int p0), (2, .ref (E.2.1 o1)), (3, .int p2)] []
  rw [f_X11_goStreet] at hf
  refine g_aload_n C 0 dX11_goStreet_0 rfl ?_
  refine fg_X11_13_20 C dX11_goStreet_1 ?_
  refine g_iconst C dX11_goStreet_4 (v := 3) (by decide) ?_
  refine g_iload_n C 1 dX11_goStreet_5 rfl ?_
  refine g_imul C dX11_goStreet_6 ?_
  obtain ⟨h1, hf⟩ := o_if hf
  refine g_ald C ar_22 dX11_goStreet_7 (k := (3 * p0).toNatClampNeg) rfl h1 ?_
  refine g_aload_n C 0 dX11_goStreet_8 rfl ?_
  refine fg_X11_16_20 C dX11_goStreet_9 ?_
  refine g_iload_n C 1 dX11_goStreet_12 rfl ?_
  obtain ⟨h2, hf⟩ := o_if hf
  refine g_ald C ar_23 dX11_goStreet_13 (k := p0.toNatClampNeg) rfl h2 ?_
  refine g_aload_n C 2 dX11_goStreet_14 rfl ?_
  refine g_iload_n C 3 dX11_goStreet_15 rfl ?_
  obtain ⟨σ4, h3, hf⟩ := o_bind hf
  refine g_callS C (c_X11_go l E o1 n1 hA1 h3) k_X11_181 ⟨rfl, rfl, Nat.le_of_ble_eq_true rfl, Nat.le_of_ble_eq_true rfl⟩ rfl (Nat.le_of_ble_eq_true rfl) dX11_goStreet_16 _ rfl ?_
  exact g_vretW C hR hf dX11_goStreet_19
abbrev rm_X11_comes : Room := { frames := 4, cells := 0, slots := 0, locals := 91 }
set_option maxRecDepth 100000 in
set_option maxHeartbeats 4000000 in
theorem c_X11_comes (l : Launch) (E : EV) {σ ss : ST} {p0 : Int32} {p1 : Int32} {rr : Int32} (hf : f_X11_comes p0 p1 σ = some (rr, ss)) : CT l E yX11_comes cX11_comes 3 (some .int) rm_X11_comes [.ref (E.2.1 20), .int p0, .int p1] σ (some (.int rr)) ss := by
  refine CT.of RX11 rfl (by decide) (Nat.le_of_ble_eq_true rfl) rfl rfl (fun Γ C hR => ?_)
  show GW Γ 3 E σ 0 [(0, .ref (E.2.1 20)), (1, .int p0), (2, .int p1)] []
  rw [f_X11_comes] at hf
  refine g_aload_n C 0 dX11_comes_0 rfl ?_
  refine g_iload_n C 1 dX11_comes_1 rfl ?_
  obtain ⟨r2, h1, hf⟩ := o_bind hf
  refine g_callV C 20 (c_X11_isStreet l E h1) cls_10 k_X11_185 ⟨rfl, rfl, Nat.le_of_ble_eq_true rfl, Nat.le_of_ble_eq_true rfl⟩ (by decide) rfl rfl (Nat.le_of_ble_eq_true rfl) dX11_comes_2 _ rfl ?_
  refine g_if_ne (y := 0) (tgt := 11) C dX11_comes_5 (by decide) (fun c3 => ?_) (fun c3 => ?_)
  · rw [if_neg c3] at hf
    refine g_iload_n C 2 dX11_comes_11 rfl ?_
    obtain ⟨r5, h4, hf⟩ := o_bind hf
    refine g_callS C (c_X11_isNote l E h4) k_X11_188 ⟨rfl, rfl, Nat.le_of_ble_eq_true rfl, Nat.le_of_ble_eq_true rfl⟩ rfl (Nat.le_of_ble_eq_true rfl) dX11_comes_12 _ rfl ?_
    refine g_if_eq (y := 0) (tgt := 40) C dX11_comes_15 (by decide) (fun c6 => ?_) (fun c6 => ?_)
    · rw [if_pos c6] at hf
      refine g_bipush C dX11_comes_40 (v := (-102)) (by decide) ?_
      exact g_iretW C hR hf dX11_comes_42
    · rw [if_neg c6] at hf
      refine g_aload_n C 0 dX11_comes_18 rfl ?_
      refine g_aload_n C 0 dX11_comes_19 rfl ?_
      refine fg_X11_13_20 C dX11_comes_20 ?_
      refine g_iconst C dX11_comes_23 (v := 3) (by decide) ?_
      refine g_iload_n C 1 dX11_comes_24 rfl ?_
      refine g_imul C dX11_comes_25 ?_
      obtain ⟨h7, hf⟩ := o_if hf
      refine g_ald C ar_22 dX11_comes_26 (k := (3 * p0).toNatClampNeg) rfl h7 ?_
      refine g_aload_n C 0 dX11_comes_27 rfl ?_
      refine fg_X11_16_20 C dX11_comes_28 ?_
      refine g_iload_n C 1 dX11_comes_31 rfl ?_
      obtain ⟨h8, hf⟩ := o_if hf
      refine g_ald C ar_23 dX11_comes_32 (k := p0.toNatClampNeg) rfl h8 ?_
      refine g_iload_n C 2 dX11_comes_33 rfl ?_
      obtain ⟨r11, σ10, h9, hf⟩ := o_bind2 hf
      refine g_callV C 20 (c_X11_comesOut l E h9) cls_10 k_X11_191 ⟨rfl, rfl, Nat.le_of_ble_eq_true rfl, Nat.le_of_ble_eq_true rfl⟩ (by decide) rfl rfl (Nat.le_of_ble_eq_true rfl) dX11_comes_34 _ rfl ?_
      refine g_goto (tgt := 42) C dX11_comes_37 (by decide) ?_
      exact g_iretW C hR hf dX11_comes_42
  · rw [if_pos c3] at hf
    refine g_bipush C dX11_comes_8 (v := (-101)) (by decide) ?_
    exact g_iretW C hR hf dX11_comes_10
abbrev rm_X11_leavesOf : Room := { frames := 4, cells := 0, slots := 0, locals := 91 }
set_option maxRecDepth 100000 in
set_option maxHeartbeats 4000000 in
theorem t_X11_leavesOf_L4 {Γ : CX} {l : Launch} {E : EV} {rr : Int32} {ss : ST} (C : FX Γ l cX11_leavesOf 4 RX11 rm_X11_leavesOf E) (hR : RT Γ (some .int) E (some (.int rr)) ss) : ∀ (n : Nat) (v1 : Int32) (v2 : Int32) (v3 : Int32) (σ : ST), f_X11_leavesOf_L4 n v1 v2 v3 σ = some (rr, ss) → GW Γ 4 E σ 4 [(0, .ref (E.2.1 20)), (1, .int v1), (2, .int v2), (3, .int v3)] [] := by
  intro n
  induction n with
  | zero => intro v1 v2 v3 σ hf; exact nomatch hf
  | succ n ih =>
    intro v1 v2 v3 σ hf
    rw [f_X11_leavesOf_L4] at hf
    refine g_iload_n C 3 dX11_leavesOf_4 rfl ?_
    refine g_bipush C dX11_leavesOf_5 (v := 12) (by decide) ?_
    refine g_icmp_ge (tgt := 49) C dX11_leavesOf_7 (by decide) (fun c1 => ?_) (fun c1 => ?_)
    · rw [if_pos c1] at hf
      refine g_iload_n C 2 dX11_leavesOf_49 rfl ?_
      exact g_iretW C hR hf dX11_leavesOf_50
    · rw [if_neg c1] at hf
      refine g_iload_n C 2 dX11_leavesOf_10 rfl ?_
      refine g_aload_n C 0 dX11_leavesOf_11 rfl ?_
      refine g_aload_n C 0 dX11_leavesOf_12 rfl ?_
      refine fg_X11_13_20 C dX11_leavesOf_13 ?_
      refine g_iconst C dX11_leavesOf_16 (v := 3) (by decide) ?_
      refine g_iload_n C 1 dX11_leavesOf_17 rfl ?_
      refine g_imul C dX11_leavesOf_18 ?_
      obtain ⟨h2, hf⟩ := o_if hf
      refine g_ald C ar_22 dX11_leavesOf_19 (k := (3 * v1).toNatClampNeg) rfl h2 ?_
      refine g_aload_n C 0 dX11_leavesOf_20 rfl ?_
      refine fg_X11_16_20 C dX11_leavesOf_21 ?_
      refine g_iload_n C 1 dX11_leavesOf_24 rfl ?_
      obtain ⟨h3, hf⟩ := o_if hf
      refine g_ald C ar_23 dX11_leavesOf_25 (k := v1.toNatClampNeg) rfl h3 ?_
      refine g_iload_n C 3 dX11_leavesOf_26 rfl ?_
      obtain ⟨r6, σ5, h4, hf⟩ := o_bind2 hf
      refine g_callV C 20 (c_X11_comesOut l E h4) cls_10 k_X11_191 ⟨rfl, rfl, Nat.le_of_ble_eq_true rfl, Nat.le_of_ble_eq_true rfl⟩ (by decide) rfl rfl (Nat.le_of_ble_eq_true rfl) dX11_leavesOf_27 _ rfl ?_
      refine g_iload_n C 3 dX11_leavesOf_30 rfl ?_
      obtain ⟨x7, ex7, hf⟩ := o_let hf
      have Kx7 : GW Γ 4 E σ5 41 [(0, .ref (E.2.1 20)), (1, .int v1), (3, .int v3)] [.int x7, .int v2] := by
        refine g_ior C dX11_leavesOf_41 ?_
        obtain ⟨x9, hx9, hf⟩ := o_let hf
        refine g_topi hx9 ?_
        refine g_istore_n C dX11_leavesOf_42 (by decide) [(2, .int x9), (0, .ref (E.2.1 20)), (1, .int v1), (3, .int v3)] rfl ?_
        obtain ⟨x10, hx10, hf⟩ := o_let hf
        refine g_iinc C 3 dX11_leavesOf_43 rfl hx10 (by decide) [(3, .int x10), (2, .int x9), (0, .ref (E.2.1 20)), (1, .int v1)] rfl ?_
        refine g_goto (tgt := 4) C dX11_leavesOf_46 (by decide) ?_
        exact g_lv [(0, .ref (E.2.1 20)), (1, .int v1), (2, .int x9), (3, .int x10)] [2, 3, 1, 0] rfl (ih v1 x9 x10 σ5 hf)
      refine g_icmp_ne (tgt := 40) C dX11_leavesOf_31 (by decide) (fun c8 => ?_) (fun c8 => ?_)
      · rw [if_neg c8] at ex7
        refine g_iconst C dX11_leavesOf_40 (v := 0) (by decide) ?_
        rw [← ex7] at Kx7
        exact g_lv [(0, .ref (E.2.1 20)), (1, .int v1), (3, .int v3)] [0, 1, 3] rfl Kx7
      · rw [if_pos c8] at ex7
        refine g_iconst C dX11_leavesOf_34 (v := 1) (by decide) ?_
        refine g_iload_n C 3 dX11_leavesOf_35 rfl ?_
        refine g_ishl C dX11_leavesOf_36 ?_
        refine g_goto (tgt := 41) C dX11_leavesOf_37 (by decide) ?_
        rw [← ex7] at Kx7
        exact g_lv [(0, .ref (E.2.1 20)), (1, .int v1), (3, .int v3)] [0, 1, 3] rfl Kx7
set_option maxRecDepth 100000 in
set_option maxHeartbeats 4000000 in
theorem c_X11_leavesOf (l : Launch) (E : EV) {σ ss : ST} {p0 : Int32} {rr : Int32} (hf : f_X11_leavesOf p0 σ = some (rr, ss)) : CT l E yX11_leavesOf cX11_leavesOf 4 (some .int) rm_X11_leavesOf [.ref (E.2.1 20), .int p0] σ (some (.int rr)) ss := by
  refine CT.of RX11 rfl (by decide) (Nat.le_of_ble_eq_true rfl) rfl rfl (fun Γ C hR => ?_)
  show GW Γ 4 E σ 0 [(0, .ref (E.2.1 20)), (1, .int p0)] []
  rw [f_X11_leavesOf] at hf
  refine g_iconst C dX11_leavesOf_0 (v := 0) (by decide) ?_
  refine g_istore_n C dX11_leavesOf_1 (by decide) [(2, .int 0), (0, .ref (E.2.1 20)), (1, .int p0)] rfl ?_
  refine g_iconst C dX11_leavesOf_2 (v := 0) (by decide) ?_
  refine g_istore_n C dX11_leavesOf_3 (by decide) [(3, .int 0), (2, .int 0), (0, .ref (E.2.1 20)), (1, .int p0)] rfl ?_
  exact g_lv [(0, .ref (E.2.1 20)), (1, .int p0), (2, .int 0), (3, .int 0)] [2, 3, 1, 0] rfl (t_X11_leavesOf_L4 C hR fuel p0 0 0 σ hf)
abbrev rm_X11_isAs : Room := { frames := 0, cells := 0, slots := 0, locals := 0 }
set_option maxRecDepth 100000 in
set_option maxHeartbeats 4000000 in
theorem t_X11_isAs_L15 {Γ : CX} {l : Launch} {E : EV} {o0 : Nat} {n0 : Nat} {o2 : Nat} {n2 : Nat} {σ : ST} {rr : Int32} (C : FX Γ l cX11_isAs 6 RX11 rm_X11_isAs E) (hR : RT Γ (some .boolean) E (some (.int rr)) σ) (hA0 : ARY o0 n0) (hA2 : ARY o2 n2) : ∀ (n : Nat) (v1 : Int32) (v4 : Int32) (v5 : Int32), f_X11_isAs_L15 o0 n0 o2 n2 σ n v1 v4 v5 = some rr → GW Γ 6 E σ 15 [(0, .ref (E.2.1 o0)), (1, .int v1), (2, .ref (E.2.1 o2)), (4, .int v4), (5, .int v5)] [] := by
  intro n
  induction n with
  | zero => intro v1 v4 v5 hf; exact nomatch hf
  | succ n ih =>
    intro v1 v4 v5 hf
    rw [f_X11_isAs_L15] at hf
    refine g_iload C 4 dX11_isAs_15 rfl ?_
    refine g_iload_n C 1 dX11_isAs_17 rfl ?_
    refine g_icmp_ge (tgt := 50) C dX11_isAs_18 (by decide) (fun c3 => ?_) (fun c3 => ?_)
    · rw [if_pos c3] at hf
      refine g_iload C 3 dX11_isAs_50 rfl ?_
      obtain ⟨hz, hf⟩ := o_if hf
      exact g_zretR C hR hf hz dX11_isAs_52
    · rw [if_neg c3] at hf
      refine g_iload C 3 dX11_isAs_21 rfl ?_
      refine g_if_eq (y := 0) (tgt := 50) C dX11_isAs_23 (by decide) (fun c4 => ?_) (fun c4 => ?_)
      · rw [if_pos c4] at hf
        refine g_iload C 3 dX11_isAs_50 rfl ?_
        obtain ⟨hz, hf⟩ := o_if hf
        exact g_zretR C hR hf hz dX11_isAs_52
      · rw [if_neg c4] at hf
        refine g_aload_n C 0 dX11_isAs_26 rfl ?_
        refine g_iload C 4 dX11_isAs_27 rfl ?_
        obtain ⟨h5, hf⟩ := o_if hf
        refine g_ald C hA0 dX11_isAs_29 (k := v5.toNatClampNeg) rfl h5 ?_
        refine g_aload_n C 2 dX11_isAs_30 rfl ?_
        refine g_iload C 4 dX11_isAs_31 rfl ?_
        obtain ⟨h6, hf⟩ := o_if hf
        refine g_ald C hA2 dX11_isAs_33 (k := v5.toNatClampNeg) rfl h6 ?_
        obtain ⟨x7, ex7, hf⟩ := o_let hf
        have Kx7 : GW Γ 6 E σ 42 [(0, .ref (E.2.1 o0)), (1, .int v1), (2, .ref (E.2.1 o2)), (5, .int v5)] [.int x7] := by
          refine g_istore C dX11_isAs_42 (by decide) [(4, .int x7), (0, .ref (E.2.1 o0)), (1, .int v1), (2, .ref (E.2.1 o2)), (5, .int v5)] rfl ?_
          obtain ⟨x9, hx9, hf⟩ := o_let hf
          refine g_iinc C 4 dX11_isAs_44 rfl hx9 (by decide) [(5, .int x9), (4, .int x7), (0, .ref (E.2.1 o0)), (1, .int v1), (2, .ref (E.2.1 o2))] rfl ?_
          refine g_goto (tgt := 15) C dX11_isAs_47 (by decide) ?_
          exact g_lv [(0, .ref (E.2.1 o0)), (1, .int v1), (2, .ref (E.2.1 o2)), (4, .int x7), (5, .int x9)] [2, 3, 4, 1, 0] rfl (ih v1 x7 x9 hf)
        refine g_icmp_ne (tgt := 41) C dX11_isAs_34 (by decide) (fun c8 => ?_) (fun c8 => ?_)
        · rw [if_neg c8] at ex7
          refine g_iconst C dX11_isAs_41 (v := 0) (by decide) ?_
          rw [← ex7] at Kx7
          exact g_lv [(0, .ref (E.2.1 o0)), (1, .int v1), (2, .ref (E.2.1 o2)), (5, .int v5)] [0, 1, 2, 4] rfl Kx7
        · rw [if_pos c8] at ex7
          refine g_iconst C dX11_isAs_37 (v := 1) (by decide) ?_
          refine g_goto (tgt := 42) C dX11_isAs_38 (by decide) ?_
          rw [← ex7] at Kx7
          exact g_lv [(0, .ref (E.2.1 o0)), (1, .int v1), (2, .ref (E.2.1 o2)), (5, .int v5)] [0, 1, 2, 4] rfl Kx7
set_option maxRecDepth 100000 in
set_option maxHeartbeats 4000000 in
theorem t_X11_isAs_B10 {Γ : CX} {l : Launch} {E : EV} {o0 : Nat} {n0 : Nat} {o2 : Nat} {n2 : Nat} {σ : ST} {rr : Int32} (C : FX Γ l cX11_isAs 6 RX11 rm_X11_isAs E) (hR : RT Γ (some .boolean) E (some (.int rr)) σ) (hA0 : ARY o0 n0) (hA2 : ARY o2 n2) (v1 : Int32) (s0 : Int32) (hf : f_X11_isAs_B10 o0 n0 o2 n2 σ v1 s0 = some rr) : GW Γ 6 E σ 10 [(0, .ref (E.2.1 o0)), (1, .int v1), (2, .ref (E.2.1 o2))] [.int s0] := by
  rw [f_X11_isAs_B10] at hf
  refine g_istore C dX11_isAs_10 (by decide) [(4, .int s0), (0, .ref (E.2.1 o0)), (1, .int v1), (2, .ref (E.2.1 o2))] rfl ?_
  refine g_iconst C dX11_isAs_12 (v := 0) (by decide) ?_
  refine g_istore C dX11_isAs_13 (by decide) [(5, .int 0), (4, .int s0), (0, .ref (E.2.1 o0)), (1, .int v1), (2, .ref (E.2.1 o2))] rfl ?_
  exact g_lv [(0, .ref (E.2.1 o0)), (1, .int v1), (2, .ref (E.2.1 o2)), (4, .int s0), (5, .int 0)] [2, 3, 4, 1, 0] rfl (t_X11_isAs_L15 C hR hA0 hA2 fuel v1 s0 0 hf)
set_option maxRecDepth 100000 in
set_option maxHeartbeats 4000000 in
theorem c_X11_isAs (l : Launch) (E : EV) (o0 : Nat) (n0 : Nat) (o2 : Nat) (n2 : Nat) {σ : ST} (hA0 : ARY o0 n0) (hA2 : ARY o2 n2) {p1 : Int32} {p3 : Int32} {rr : Int32} (hf : f_X11_isAs o0 n0 o2 n2 σ p1 p3 = some rr) : CT l E yX11_isAs cX11_isAs 6 (some .boolean) rm_X11_isAs [.ref (E.2.1 o0), .int p1, .ref (E.2.1 o2), .int p3] σ (some (.int rr)) σ := by
  refine CT.of RX11 rfl (by decide) (Nat.le_of_ble_eq_true rfl) rfl rfl (fun Γ C hR => ?_)
  show GW Γ 6 E σ 0 [(0, .ref (E.2.1 o0)), (1, .int p1), (2, .ref (E.2.1 o2)), (3, .int p3)] []
  rw [f_X11_isAs] at hf
  refine g_iload_n C 1 dX11_isAs_0 rfl ?_
  refine g_iload_n C 3 dX11_isAs_1 rfl ?_
  obtain ⟨x1, ex1, hf⟩ := o_let hf
  have Kx1 : GW Γ 6 E σ 10 [(0, .ref (E.2.1 o0)), (1, .int p1), (2, .ref (E.2.1 o2))] [.int x1] := by
    exact t_X11_isAs_B10 C hR hA0 hA2 p1 x1 hf
  refine g_icmp_ne (tgt := 9) C dX11_isAs_2 (by decide) (fun c2 => ?_) (fun c2 => ?_)
  · rw [if_neg c2] at ex1
    refine g_iconst C dX11_isAs_9 (v := 0) (by decide) ?_
    rw [← ex1] at Kx1
    exact g_lv [(0, .ref (E.2.1 o0)), (1, .int p1), (2, .ref (E.2.1 o2))] [0, 1, 2] rfl Kx1
  · rw [if_pos c2] at ex1
    refine g_iconst C dX11_isAs_5 (v := 1) (by decide) ?_
    refine g_goto (tgt := 10) C dX11_isAs_6 (by decide) ?_
    rw [← ex1] at Kx1
    exact g_lv [(0, .ref (E.2.1 o0)), (1, .int p1), (2, .ref (E.2.1 o2))] [0, 1, 2] rfl Kx1
abbrev rm_X11_againOf : Room := { frames := 4, cells := 0, slots := 0, locals := 91 }
set_option maxRecDepth 100000 in
set_option maxHeartbeats 4000000 in
theorem t_X11_againOf_L13 {Γ : CX} {l : Launch} {E : EV} {rr : Int32} {ss : ST} (C : FX Γ l cX11_againOf 3 RX11 rm_X11_againOf E) (hR : RT Γ (some .int) E (some (.int rr)) ss) : ∀ (n : Nat) (v1 : Int32) (v2 : Int32) (σ : ST), f_X11_againOf_L13 n v1 v2 σ = some (rr, ss) → GW Γ 3 E σ 13 [(0, .ref (E.2.1 20)), (1, .int v1), (2, .int v2)] [] := by
  intro n
  induction n with
  | zero => intro v1 v2 σ hf; exact nomatch hf
  | succ n ih =>
    intro v1 v2 σ hf
    rw [f_X11_againOf_L13] at hf
    refine g_iload_n C 2 dX11_againOf_13 rfl ?_
    refine g_bipush C dX11_againOf_14 (v := 25) (by decide) ?_
    refine g_icmp_ge (tgt := 69) C dX11_againOf_16 (by decide) (fun c3 => ?_) (fun c3 => ?_)
    · rw [if_pos c3] at hf
      refine g_iconst C dX11_againOf_69 (v := (-1)) (by decide) ?_
      exact g_iretW C hR hf dX11_againOf_70
    · rw [if_neg c3] at hf
      refine g_aload_n C 0 dX11_againOf_19 rfl ?_
      refine fg_X11_135_20 C dX11_againOf_20 ?_
      refine g_if_le (y := 0) (tgt := 69) C dX11_againOf_23 (by decide) (fun c4 => ?_) (fun c4 => ?_)
      · rw [if_pos c4] at hf
        refine g_iconst C dX11_againOf_69 (v := (-1)) (by decide) ?_
        exact g_iretW C hR hf dX11_againOf_70
      · rw [if_neg c4] at hf
        refine g_aload_n C 0 dX11_againOf_26 rfl ?_
        refine g_iload_n C 1 dX11_againOf_27 rfl ?_
        refine g_aload_n C 0 dX11_againOf_28 rfl ?_
        refine fg_X11_31_20 C dX11_againOf_29 ?_
        refine g_aload_n C 0 dX11_againOf_32 rfl ?_
        refine fg_X11_135_20 C dX11_againOf_33 ?_
        obtain ⟨σ6, h5, hf⟩ := o_bind hf
        refine g_callV C 20 (c_X11_goStreet l E 28 8 ar_28 h5) cls_10 k_X11_199 ⟨rfl, rfl, Nat.le_of_ble_eq_true rfl, Nat.le_of_ble_eq_true rfl⟩ (by decide) rfl rfl (Nat.le_of_ble_eq_true rfl) dX11_againOf_36 _ rfl ?_
        refine g_aload_n C 0 dX11_againOf_39 rfl ?_
        refine fg_X11_31_20 C dX11_againOf_40 ?_
        refine g_aload_n C 0 dX11_againOf_43 rfl ?_
        refine fg_X11_135_20 C dX11_againOf_44 ?_
        refine g_aload_n C 0 dX11_againOf_47 rfl ?_
        refine fg_X11_22_20 C dX11_againOf_48 ?_
        refine g_aload_n C 0 dX11_againOf_51 rfl ?_
        refine fg_X11_135_20 C dX11_againOf_52 ?_
        obtain ⟨r8, h7, hf⟩ := o_bind hf
        refine g_callS C (c_X11_isAs l E 28 8 25 8 ar_28 ar_25 h7) k_X11_203 ⟨rfl, rfl, Nat.le_of_ble_eq_true rfl, Nat.le_of_ble_eq_true rfl⟩ rfl (Nat.le_of_ble_eq_true rfl) dX11_againOf_55 _ rfl ?_
        refine g_if_eq (y := 0) (tgt := 63) C dX11_againOf_58 (by decide) (fun c9 => ?_) (fun c9 => ?_)
        · rw [if_pos c9] at hf
          obtain ⟨x10, hx10, hf⟩ := o_let hf
          refine g_iinc C 2 dX11_againOf_63 rfl hx10 (by decide) [(2, .int x10), (0, .ref (E.2.1 20)), (1, .int v1)] rfl ?_
          refine g_goto (tgt := 13) C dX11_againOf_66 (by decide) ?_
          exact g_lv [(0, .ref (E.2.1 20)), (1, .int v1), (2, .int x10)] [1, 2, 0] rfl (ih v1 x10 σ6 hf)
        · rw [if_neg c9] at hf
          refine g_iload_n C 2 dX11_againOf_61 rfl ?_
          exact g_iretW C hR hf dX11_againOf_62
set_option maxRecDepth 100000 in
set_option maxHeartbeats 4000000 in
theorem c_X11_againOf (l : Launch) (E : EV) {σ ss : ST} {p0 : Int32} {rr : Int32} (hf : f_X11_againOf p0 σ = some (rr, ss)) : CT l E yX11_againOf cX11_againOf 3 (some .int) rm_X11_againOf [.ref (E.2.1 20), .int p0] σ (some (.int rr)) ss := by
  refine CT.of RX11 rfl (by decide) (Nat.le_of_ble_eq_true rfl) rfl rfl (fun Γ C hR => ?_)
  show GW Γ 3 E σ 0 [(0, .ref (E.2.1 20)), (1, .int p0)] []
  rw [f_X11_againOf] at hf
  refine g_aload_n C 0 dX11_againOf_0 rfl ?_
  refine fg_X11_22_20 C dX11_againOf_1 ?_
  refine g_aload_n C 0 dX11_againOf_4 rfl ?_
  refine fg_X11_31_20 C dX11_againOf_5 ?_
  obtain ⟨σ2, h1, hf⟩ := o_bind hf
  refine g_callS C (c_X11_copy l E 25 8 28 8 ar_25 ar_28 h1) k_X11_195 ⟨rfl, rfl, Nat.le_of_ble_eq_true rfl, Nat.le_of_ble_eq_true rfl⟩ rfl (Nat.le_of_ble_eq_true rfl) dX11_againOf_8 _ rfl ?_
  refine g_iconst C dX11_againOf_11 (v := 1) (by decide) ?_
  refine g_istore_n C dX11_againOf_12 (by decide) [(2, .int 1), (0, .ref (E.2.1 20)), (1, .int p0)] rfl ?_
  exact g_lv [(0, .ref (E.2.1 20)), (1, .int p0), (2, .int 1)] [1, 2, 0] rfl (t_X11_againOf_L13 C hR fuel p0 1 σ2 hf)
abbrev rm_X11_endsAt : Room := { frames := 0, cells := 0, slots := 0, locals := 0 }
set_option maxRecDepth 100000 in
set_option maxHeartbeats 4000000 in
theorem c_X11_endsAt (l : Launch) (E : EV) {σ : ST} {p0 : Int32} {p1 : Int32} {rr : Int32} (hf : f_X11_endsAt σ p0 p1 = some rr) : CT l E yX11_endsAt cX11_endsAt 3 (some .boolean) rm_X11_endsAt [.ref (E.2.1 20), .int p0, .int p1] σ (some (.int rr)) σ := by
  refine CT.of RX11 rfl (by decide) (Nat.le_of_ble_eq_true rfl) rfl rfl (fun Γ C hR => ?_)
  show GW Γ 3 E σ 0 [(0, .ref (E.2.1 20)), (1, .int p0), (2, .int p1)] []
  rw [f_X11_endsAt] at hf
  refine g_aload_n C 0 dX11_endsAt_0 rfl ?_
  refine fg_X11_13_20 C dX11_endsAt_1 ?_
  refine g_iconst C dX11_endsAt_4 (v := 3) (by decide) ?_
  refine g_iload_n C 1 dX11_endsAt_5 rfl ?_
  refine g_imul C dX11_endsAt_6 ?_
  refine g_iconst C dX11_endsAt_7 (v := 1) (by decide) ?_
  refine g_iadd C dX11_endsAt_8 ?_
  obtain ⟨h1, hf⟩ := o_if hf
  refine g_ald C ar_22 dX11_endsAt_9 (k := ((3 * p0) + 1).toNatClampNeg) rfl h1 ?_
  refine g_iload_n C 2 dX11_endsAt_10 rfl ?_
  refine g_icmp_eq (tgt := 28) C dX11_endsAt_11 (by decide) (fun c2 => ?_) (fun c2 => ?_)
  · rw [if_pos c2] at hf
    refine g_iconst C dX11_endsAt_28 (v := 1) (by decide) ?_
    refine g_goto (tgt := 33) C dX11_endsAt_29 (by decide) ?_
    exact g_zretR C hR hf (by decide) dX11_endsAt_33
  · rw [if_neg c2] at hf
    refine g_aload_n C 0 dX11_endsAt_14 rfl ?_
    refine fg_X11_13_20 C dX11_endsAt_15 ?_
    refine g_iconst C dX11_endsAt_18 (v := 3) (by decide) ?_
    refine g_iload_n C 1 dX11_endsAt_19 rfl ?_
    refine g_imul C dX11_endsAt_20 ?_
    refine g_iconst C dX11_endsAt_21 (v := 2) (by decide) ?_
    refine g_iadd C dX11_endsAt_22 ?_
    obtain ⟨h3, hf⟩ := o_if hf
    refine g_ald C ar_22 dX11_endsAt_23 (k := ((3 * p0) + 2).toNatClampNeg) rfl h3 ?_
    refine g_iload_n C 2 dX11_endsAt_24 rfl ?_
    refine g_icmp_ne (tgt := 32) C dX11_endsAt_25 (by decide) (fun c4 => ?_) (fun c4 => ?_)
    · rw [if_neg c4] at hf
      refine g_iconst C dX11_endsAt_32 (v := 0) (by decide) ?_
      exact g_zretR C hR hf (by decide) dX11_endsAt_33
    · rw [if_pos c4] at hf
      refine g_iconst C dX11_endsAt_28 (v := 1) (by decide) ?_
      refine g_goto (tgt := 33) C dX11_endsAt_29 (by decide) ?_
      exact g_zretR C hR hf (by decide) dX11_endsAt_33
abbrev rm_X11_otherEnd : Room := { frames := 0, cells := 0, slots := 0, locals := 0 }
set_option maxRecDepth 100000 in
set_option maxHeartbeats 4000000 in
theorem c_X11_otherEnd (l : Launch) (E : EV) {σ : ST} {p0 : Int32} {p1 : Int32} {rr : Int32} (hf : f_X11_otherEnd σ p0 p1 = some rr) : CT l E yX11_otherEnd cX11_otherEnd 3 (some .int) rm_X11_otherEnd [.ref (E.2.1 20), .int p0, .int p1] σ (some (.int rr)) σ := by
  refine CT.of RX11 rfl (by decide) (Nat.le_of_ble_eq_true rfl) rfl rfl (fun Γ C hR => ?_)
  show GW Γ 3 E σ 0 [(0, .ref (E.2.1 20)), (1, .int p0), (2, .int p1)] []
  rw [f_X11_otherEnd] at hf
  refine g_aload_n C 0 dX11_otherEnd_0 rfl ?_
  refine fg_X11_13_20 C dX11_otherEnd_1 ?_
  refine g_iconst C dX11_otherEnd_4 (v := 3) (by decide) ?_
  refine g_iload_n C 1 dX11_otherEnd_5 rfl ?_
  refine g_imul C dX11_otherEnd_6 ?_
  refine g_iconst C dX11_otherEnd_7 (v := 1) (by decide) ?_
  refine g_iadd C dX11_otherEnd_8 ?_
  obtain ⟨h1, hf⟩ := o_if hf
  refine g_ald C ar_22 dX11_otherEnd_9 (k := ((3 * p0) + 1).toNatClampNeg) rfl h1 ?_
  refine g_aload_n C 0 dX11_otherEnd_10 rfl ?_
  refine fg_X11_13_20 C dX11_otherEnd_11 ?_
  refine g_iconst C dX11_otherEnd_14 (v := 3) (by decide) ?_
  refine g_iload_n C 1 dX11_otherEnd_15 rfl ?_
  refine g_imul C dX11_otherEnd_16 ?_
  refine g_iconst C dX11_otherEnd_17 (v := 2) (by decide) ?_
  refine g_iadd C dX11_otherEnd_18 ?_
  obtain ⟨h2, hf⟩ := o_if hf
  refine g_ald C ar_22 dX11_otherEnd_19 (k := ((3 * p0) + 2).toNatClampNeg) rfl h2 ?_
  refine g_iadd C dX11_otherEnd_20 ?_
  refine g_iload_n C 2 dX11_otherEnd_21 rfl ?_
  refine g_isub C dX11_otherEnd_22 ?_
  exact g_iretR C hR hf dX11_otherEnd_23
abbrev rm_X11_isOpen : Room := { frames := 2, cells := 0, slots := 0, locals := 44 }
set_option maxRecDepth 100000 in
set_option maxHeartbeats 4000000 in
theorem c_X11_isOpen (l : Launch) (E : EV) (o1 : Nat) (n1 : Nat) {σ : ST} (hA1 : ARY o1 n1) {p0 : Int32} {p2 : Int32} {rr : Int32} (hf : f_X11_isOpen o1 n1 σ p0 p2 = some rr) : CT l E yX11_isOpen cX11_isOpen 4 (some .boolean) rm_X11_isOpen [.ref (E.2.1 20), .int p0, .ref (E.2.1 o1), .int p2] σ (some (.int rr)) σ := by
  refine CT.of RX11 rfl (by decide) (Nat.le_of_ble_eq_true rfl) rfl rfl (fun Γ C hR => ?_)
  show GW Γ 4 E σ 0 [(0, .ref (E.2.1 20)), (1, .int p0), (2, .ref (E.2.1 o1)), (3, .int p2)] []
  rw [f_X11_isOpen] at hf
  refine g_aload_n C 0 dX11_isOpen_0 rfl ?_
  refine fg_X11_13_20 C dX11_isOpen_1 ?_
  refine g_iconst C dX11_isOpen_4 (v := 3) (by decide) ?_
  refine g_iload_n C 1 dX11_isOpen_5 rfl ?_
  refine g_imul C dX11_isOpen_6 ?_
  obtain ⟨h1, hf⟩ := o_if hf
  refine g_ald C ar_22 dX11_isOpen_7 (k := (3 * p0).toNatClampNeg) rfl h1 ?_
  refine g_iconst C dX11_isOpen_8 (v := 2) (by decide) ?_
  refine g_icmp_ne (tgt := 27) C dX11_isOpen_9 (by decide) (fun c2 => ?_) (fun c2 => ?_)
  · rw [if_neg c2] at hf
    refine g_iconst C dX11_isOpen_27 (v := 1) (by decide) ?_
    refine g_goto (tgt := 32) C dX11_isOpen_28 (by decide) ?_
    exact g_zretR C hR hf (by decide) dX11_isOpen_32
  · rw [if_pos c2] at hf
    refine g_aload_n C 0 dX11_isOpen_12 rfl ?_
    refine fg_X11_114_20 C dX11_isOpen_13 ?_
    refine g_if_eq (y := 0) (tgt := 27) C dX11_isOpen_16 (by decide) (fun c3 => ?_) (fun c3 => ?_)
    · rw [if_pos c3] at hf
      refine g_iconst C dX11_isOpen_27 (v := 1) (by decide) ?_
      refine g_goto (tgt := 32) C dX11_isOpen_28 (by decide) ?_
      exact g_zretR C hR hf (by decide) dX11_isOpen_32
    · rw [if_neg c3] at hf
      refine g_aload_n C 2 dX11_isOpen_19 rfl ?_
      refine g_iload_n C 3 dX11_isOpen_20 rfl ?_
      obtain ⟨r5, h4, hf⟩ := o_bind hf
      refine g_callS C (c_X11_tritonesOf l E o1 n1 hA1 h4) k_X11_162 ⟨rfl, rfl, Nat.le_of_ble_eq_true rfl, Nat.le_of_ble_eq_true rfl⟩ rfl (Nat.le_of_ble_eq_true rfl) dX11_isOpen_21 _ rfl ?_
      refine g_if_ne (y := 0) (tgt := 31) C dX11_isOpen_24 (by decide) (fun c6 => ?_) (fun c6 => ?_)
      · rw [if_neg c6] at hf
        refine g_iconst C dX11_isOpen_31 (v := 0) (by decide) ?_
        exact g_zretR C hR hf (by decide) dX11_isOpen_32
      · rw [if_pos c6] at hf
        refine g_iconst C dX11_isOpen_27 (v := 1) (by decide) ?_
        refine g_goto (tgt := 32) C dX11_isOpen_28 (by decide) ?_
        exact g_zretR C hR hf (by decide) dX11_isOpen_32
abbrev rm_X11_tonicsOf : Room := { frames := 4, cells := 0, slots := 0, locals := 91 }
set_option maxRecDepth 100000 in
set_option maxHeartbeats 4000000 in
theorem t_X11_tonicsOf_B90 {Γ : CX} {l : Launch} {E : EV} {rr : Int32} {ss : ST} (k_4 : Int32 → Int32 → Int32 → ST → Option (Int32 × ST)) (C : FX Γ l cX11_tonicsOf 6 RX11 rm_X11_tonicsOf E) (hR : RT Γ (some .int) E (some (.int rr)) ss) (hk_4 : ∀ (v1 : Int32) (v2 : Int32) (v3 : Int32) (σ : ST), k_4 v1 v2 v3 σ = some (rr, ss) → GW Γ 6 E σ 4 [(0, .ref (E.2.1 20)), (1, .int v1), (2, .int v2), (3, .int v3)] []) (v1 : Int32) (v2 : Int32) (v3 : Int32) (v4 : Int32) (σ : ST) (hf : f_X11_tonicsOf_B90 k_4 v1 v2 v3 v4 σ = some (rr, ss)) : GW Γ 6 E σ 90 [(0, .ref (E.2.1 20)), (1, .int v1), (2, .int v2), (3, .int v3), (4, .int v4)] [] := by
  rw [f_X11_tonicsOf_B90] at hf
  refine g_iload_n C 2 dX11_tonicsOf_90 rfl ?_
  refine g_iload C 4 dX11_tonicsOf_91 rfl ?_
  obtain ⟨x3, ex3, hf⟩ := o_let hf
  have Kx3 : GW Γ 6 E σ 103 [(0, .ref (E.2.1 20)), (1, .int v1), (3, .int v3)] [.int x3, .int v2] := by
    refine g_ior C dX11_tonicsOf_103 ?_
    obtain ⟨x5, hx5, hf⟩ := o_let hf
    refine g_topi hx5 ?_
    refine g_istore_n C dX11_tonicsOf_104 (by decide) [(2, .int x5), (0, .ref (E.2.1 20)), (1, .int v1), (3, .int v3)] rfl ?_
    obtain ⟨x6, hx6, hf⟩ := o_let hf
    refine g_iinc C 3 dX11_tonicsOf_105 rfl hx6 (by decide) [(3, .int x6), (2, .int x5), (0, .ref (E.2.1 20)), (1, .int v1)] rfl ?_
    refine g_goto (tgt := 4) C dX11_tonicsOf_108 (by decide) ?_
    exact g_lv [(0, .ref (E.2.1 20)), (1, .int v1), (2, .int x5), (3, .int x6)] [2, 3, 1, 0] rfl (hk_4 v1 x5 x6 σ hf)
  refine g_if_eq (y := 0) (tgt := 102) C dX11_tonicsOf_93 (by decide) (fun c4 => ?_) (fun c4 => ?_)
  · rw [if_pos c4] at ex3
    refine g_iconst C dX11_tonicsOf_102 (v := 0) (by decide) ?_
    rw [← ex3] at Kx3
    exact g_lv [(0, .ref (E.2.1 20)), (1, .int v1), (3, .int v3)] [0, 1, 3] rfl Kx3
  · rw [if_neg c4] at ex3
    refine g_iconst C dX11_tonicsOf_96 (v := 1) (by decide) ?_
    refine g_iload_n C 3 dX11_tonicsOf_97 rfl ?_
    refine g_ishl C dX11_tonicsOf_98 ?_
    refine g_goto (tgt := 103) C dX11_tonicsOf_99 (by decide) ?_
    rw [← ex3] at Kx3
    exact g_lv [(0, .ref (E.2.1 20)), (1, .int v1), (3, .int v3)] [0, 1, 3] rfl Kx3
set_option maxRecDepth 100000 in
set_option maxHeartbeats 4000000 in
theorem t_X11_tonicsOf_L16 {Γ : CX} {l : Launch} {E : EV} {rr : Int32} {ss : ST} (k_4 : Int32 → Int32 → Int32 → ST → Option (Int32 × ST)) (C : FX Γ l cX11_tonicsOf 6 RX11 rm_X11_tonicsOf E) (hR : RT Γ (some .int) E (some (.int rr)) ss) (hk_4 : ∀ (v1 : Int32) (v2 : Int32) (v3 : Int32) (σ : ST), k_4 v1 v2 v3 σ = some (rr, ss) → GW Γ 6 E σ 4 [(0, .ref (E.2.1 20)), (1, .int v1), (2, .int v2), (3, .int v3)] []) : ∀ (n : Nat) (v1 : Int32) (v2 : Int32) (v3 : Int32) (v4 : Int32) (v5 : Int32) (σ : ST), f_X11_tonicsOf_L16 k_4 n v1 v2 v3 v4 v5 σ = some (rr, ss) → GW Γ 6 E σ 16 [(0, .ref (E.2.1 20)), (1, .int v1), (2, .int v2), (3, .int v3), (4, .int v4), (5, .int v5)] [] := by
  intro n
  induction n with
  | zero => intro v1 v2 v3 v4 v5 σ hf; exact nomatch hf
  | succ n ih =>
    intro v1 v2 v3 v4 v5 σ hf
    rw [f_X11_tonicsOf_L16] at hf
    refine g_iload C 5 dX11_tonicsOf_16 rfl ?_
    refine g_iconst C dX11_tonicsOf_18 (v := 3) (by decide) ?_
    refine g_aload_n C 0 dX11_tonicsOf_19 rfl ?_
    refine fg_X11_121_20 C dX11_tonicsOf_20 ?_
    refine g_imul C dX11_tonicsOf_23 ?_
    refine g_icmp_ge (tgt := 90) C dX11_tonicsOf_24 (by decide) (fun c2 => ?_) (fun c2 => ?_)
    · rw [if_pos c2] at hf
      exact g_lv [(0, .ref (E.2.1 20)), (1, .int v1), (2, .int v2), (3, .int v3), (4, .int v4)] [0, 1, 2, 3, 4] rfl (t_X11_tonicsOf_B90 k_4 C hR hk_4 v1 v2 v3 v4 σ hf)
    · rw [if_neg c2] at hf
      refine g_aload_n C 0 dX11_tonicsOf_27 rfl ?_
      refine fg_X11_46_20 C dX11_tonicsOf_28 ?_
      refine g_iload C 5 dX11_tonicsOf_31 rfl ?_
      obtain ⟨h7, hf⟩ := o_if hf
      refine g_ald C ar_33 dX11_tonicsOf_33 (k := v5.toNatClampNeg) rfl h7 ?_
      refine g_iload_n C 1 dX11_tonicsOf_34 rfl ?_
      refine g_icmp_ne (tgt := 84) C dX11_tonicsOf_35 (by decide) (fun c8 => ?_) (fun c8 => ?_)
      · rw [if_neg c8] at hf
        obtain ⟨x9, hx9, hf⟩ := o_let hf
        refine g_iinc C 5 dX11_tonicsOf_84 rfl hx9 (by decide) [(5, .int x9), (0, .ref (E.2.1 20)), (1, .int v1), (2, .int v2), (3, .int v3), (4, .int v4)] rfl ?_
        refine g_goto (tgt := 16) C dX11_tonicsOf_87 (by decide) ?_
        exact g_lv [(0, .ref (E.2.1 20)), (1, .int v1), (2, .int v2), (3, .int v3), (4, .int v4), (5, .int x9)] [1, 2, 3, 4, 5, 0] rfl (ih v1 v2 v3 v4 x9 σ hf)
      · rw [if_pos c8] at hf
        refine g_iload C 4 dX11_tonicsOf_38 rfl ?_
        refine g_if_eq (y := 0) (tgt := 81) C dX11_tonicsOf_40 (by decide) (fun c10 => ?_) (fun c10 => ?_)
        · rw [if_pos c10] at hf
          refine g_iconst C dX11_tonicsOf_81 (v := 0) (by decide) ?_
          refine g_istore C dX11_tonicsOf_82 (by decide) [(4, .int 0), (0, .ref (E.2.1 20)), (1, .int v1), (2, .int v2), (3, .int v3), (5, .int v5)] rfl ?_
          obtain ⟨x11, hx11, hf⟩ := o_let hf
          refine g_iinc C 5 dX11_tonicsOf_84 rfl hx11 (by decide) [(5, .int x11), (4, .int 0), (0, .ref (E.2.1 20)), (1, .int v1), (2, .int v2), (3, .int v3)] rfl ?_
          refine g_goto (tgt := 16) C dX11_tonicsOf_87 (by decide) ?_
          exact g_lv [(0, .ref (E.2.1 20)), (1, .int v1), (2, .int v2), (3, .int v3), (4, .int 0), (5, .int x11)] [2, 3, 4, 5, 1, 0] rfl (ih v1 v2 v3 0 x11 σ hf)
        · rw [if_neg c10] at hf
          refine g_aload_n C 0 dX11_tonicsOf_43 rfl ?_
          refine g_aload_n C 0 dX11_tonicsOf_44 rfl ?_
          refine fg_X11_13_20 C dX11_tonicsOf_45 ?_
          refine g_iconst C dX11_tonicsOf_48 (v := 3) (by decide) ?_
          refine g_iload_n C 1 dX11_tonicsOf_49 rfl ?_
          refine g_imul C dX11_tonicsOf_50 ?_
          obtain ⟨h12, hf⟩ := o_if hf
          refine g_ald C ar_22 dX11_tonicsOf_51 (k := (3 * v1).toNatClampNeg) rfl h12 ?_
          refine g_iload_n C 3 dX11_tonicsOf_52 rfl ?_
          refine g_aload_n C 0 dX11_tonicsOf_53 rfl ?_
          refine fg_X11_46_20 C dX11_tonicsOf_54 ?_
          refine g_iload C 5 dX11_tonicsOf_57 rfl ?_
          refine g_iconst C dX11_tonicsOf_59 (v := 1) (by decide) ?_
          refine g_iadd C dX11_tonicsOf_60 ?_
          obtain ⟨h13, hf⟩ := o_if hf
          refine g_ald C ar_33 dX11_tonicsOf_61 (k := (v5 + 1).toNatClampNeg) rfl h13 ?_
          obtain ⟨r16, σ15, h14, hf⟩ := o_bind2 hf
          refine g_callV C 20 (c_X11_comesOut l E h14) cls_10 k_X11_191 ⟨rfl, rfl, Nat.le_of_ble_eq_true rfl, Nat.le_of_ble_eq_true rfl⟩ (by decide) rfl rfl (Nat.le_of_ble_eq_true rfl) dX11_tonicsOf_62 _ rfl ?_
          refine g_aload_n C 0 dX11_tonicsOf_65 rfl ?_
          refine fg_X11_46_20 C dX11_tonicsOf_66 ?_
          refine g_iload C 5 dX11_tonicsOf_69 rfl ?_
          refine g_iconst C dX11_tonicsOf_71 (v := 2) (by decide) ?_
          refine g_iadd C dX11_tonicsOf_72 ?_
          obtain ⟨h17, hf⟩ := o_if hf
          refine g_ald C ar_33 dX11_tonicsOf_73 (k := (v5 + 2).toNatClampNeg) rfl h17 ?_
          obtain ⟨x18, ex18, hf⟩ := o_let hf
          have Kx18 : GW Γ 6 E σ15 82 [(0, .ref (E.2.1 20)), (1, .int v1), (2, .int v2), (3, .int v3), (5, .int v5)] [.int x18] := by
            refine g_istore C dX11_tonicsOf_82 (by decide) [(4, .int x18), (0, .ref (E.2.1 20)), (1, .int v1), (2, .int v2), (3, .int v3), (5, .int v5)] rfl ?_
            obtain ⟨x20, hx20, hf⟩ := o_let hf
            refine g_iinc C 5 dX11_tonicsOf_84 rfl hx20 (by decide) [(5, .int x20), (4, .int x18), (0, .ref (E.2.1 20)), (1, .int v1), (2, .int v2), (3, .int v3)] rfl ?_
            refine g_goto (tgt := 16) C dX11_tonicsOf_87 (by decide) ?_
            exact g_lv [(0, .ref (E.2.1 20)), (1, .int v1), (2, .int v2), (3, .int v3), (4, .int x18), (5, .int x20)] [2, 3, 4, 5, 1, 0] rfl (ih v1 v2 v3 x18 x20 σ15 hf)
          refine g_icmp_ne (tgt := 81) C dX11_tonicsOf_74 (by decide) (fun c19 => ?_) (fun c19 => ?_)
          · rw [if_neg c19] at ex18
            refine g_iconst C dX11_tonicsOf_81 (v := 0) (by decide) ?_
            rw [← ex18] at Kx18
            exact g_lv [(0, .ref (E.2.1 20)), (1, .int v1), (2, .int v2), (3, .int v3), (5, .int v5)] [0, 1, 2, 3, 5] rfl Kx18
          · rw [if_pos c19] at ex18
            refine g_iconst C dX11_tonicsOf_77 (v := 1) (by decide) ?_
            refine g_goto (tgt := 82) C dX11_tonicsOf_78 (by decide) ?_
            rw [← ex18] at Kx18
            exact g_lv [(0, .ref (E.2.1 20)), (1, .int v1), (2, .int v2), (3, .int v3), (5, .int v5)] [0, 1, 2, 3, 5] rfl Kx18
set_option maxRecDepth 100000 in
set_option maxHeartbeats 4000000 in
theorem t_X11_tonicsOf_L4 {Γ : CX} {l : Launch} {E : EV} {rr : Int32} {ss : ST} (C : FX Γ l cX11_tonicsOf 6 RX11 rm_X11_tonicsOf E) (hR : RT Γ (some .int) E (some (.int rr)) ss) : ∀ (n : Nat) (v1 : Int32) (v2 : Int32) (v3 : Int32) (σ : ST), f_X11_tonicsOf_L4 n v1 v2 v3 σ = some (rr, ss) → GW Γ 6 E σ 4 [(0, .ref (E.2.1 20)), (1, .int v1), (2, .int v2), (3, .int v3)] [] := by
  intro n
  induction n with
  | zero => intro v1 v2 v3 σ hf; exact nomatch hf
  | succ n ih =>
    intro v1 v2 v3 σ hf
    rw [f_X11_tonicsOf_L4] at hf
    refine g_iload_n C 3 dX11_tonicsOf_4 rfl ?_
    refine g_bipush C dX11_tonicsOf_5 (v := 12) (by decide) ?_
    refine g_icmp_ge (tgt := 111) C dX11_tonicsOf_7 (by decide) (fun c1 => ?_) (fun c1 => ?_)
    · rw [if_pos c1] at hf
      refine g_iload_n C 2 dX11_tonicsOf_111 rfl ?_
      exact g_iretW C hR hf dX11_tonicsOf_112
    · rw [if_neg c1] at hf
      refine g_iconst C dX11_tonicsOf_10 (v := 1) (by decide) ?_
      refine g_istore C dX11_tonicsOf_11 (by decide) [(4, .int 1), (0, .ref (E.2.1 20)), (1, .int v1), (2, .int v2), (3, .int v3)] rfl ?_
      refine g_iconst C dX11_tonicsOf_13 (v := 0) (by decide) ?_
      refine g_istore C dX11_tonicsOf_14 (by decide) [(5, .int 0), (4, .int 1), (0, .ref (E.2.1 20)), (1, .int v1), (2, .int v2), (3, .int v3)] rfl ?_
      exact g_lv [(0, .ref (E.2.1 20)), (1, .int v1), (2, .int v2), (3, .int v3), (4, .int 1), (5, .int 0)] [2, 3, 4, 5, 1, 0] rfl (t_X11_tonicsOf_L16 ((f_X11_tonicsOf_L4 n)) C hR ih fuel v1 v2 v3 1 0 σ hf)
set_option maxRecDepth 100000 in
set_option maxHeartbeats 4000000 in
theorem c_X11_tonicsOf (l : Launch) (E : EV) {σ ss : ST} {p0 : Int32} {rr : Int32} (hf : f_X11_tonicsOf p0 σ = some (rr, ss)) : CT l E yX11_tonicsOf cX11_tonicsOf 6 (some .int) rm_X11_tonicsOf [.ref (E.2.1 20), .int p0] σ (some (.int rr)) ss := by
  refine CT.of RX11 rfl (by decide) (Nat.le_of_ble_eq_true rfl) rfl rfl (fun Γ C hR => ?_)
  show GW Γ 6 E σ 0 [(0, .ref (E.2.1 20)), (1, .int p0)] []
  rw [f_X11_tonicsOf] at hf
  refine g_iconst C dX11_tonicsOf_0 (v := 0) (by decide) ?_
  refine g_istore_n C dX11_tonicsOf_1 (by decide) [(2, .int 0), (0, .ref (E.2.1 20)), (1, .int p0)] rfl ?_
  refine g_iconst C dX11_tonicsOf_2 (v := 0) (by decide) ?_
  refine g_istore_n C dX11_tonicsOf_3 (by decide) [(3, .int 0), (2, .int 0), (0, .ref (E.2.1 20)), (1, .int p0)] rfl ?_
  exact g_lv [(0, .ref (E.2.1 20)), (1, .int p0), (2, .int 0), (3, .int 0)] [2, 3, 1, 0] rfl (t_X11_tonicsOf_L4 C hR fuel p0 0 0 σ hf)
