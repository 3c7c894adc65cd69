abbrev rm_J0_isLatin1_aae02 : Room := { frames := 0, cells := 0, slots := 0, locals := 0 }
set_option maxRecDepth 100000 in
set_option maxHeartbeats 4000000 in
theorem c_J0_isLatin1_aae02 (l : Launch) (E : EV) {σ : ST} {rr : Int32} (hf : f_J0_isLatin1_aae02 = some rr) : CT l E yJ0_isLatin1_aae02 cJ0_isLatin1_aae02 1 (some .boolean) rm_J0_isLatin1_aae02 [.ref (E.2.2.2.1 0)] σ (some (.int rr)) σ := by
  refine CT.of RJ0 rfl (by decide) (Nat.le_of_ble_eq_true rfl) rfl rfl (fun Γ C hR => ?_)
  show GW Γ 1 E σ 0 [(0, .ref (E.2.2.2.1 0))] []
  rw [f_J0_isLatin1_aae02] at hf
  refine g_scomp C sv_38 dJ0_isLatin1_aae02_0 ?_
  refine g_if_eq (y := 0) (tgt := 17) C dJ0_isLatin1_aae02_3 (by decide) (fun c1 => ?_) (fun c1 => ?_)
  · rw [if_pos c1] at hf
    refine g_iconst C dJ0_isLatin1_aae02_17 (v := 0) (by decide) ?_
    exact g_zretR C hR hf (by decide) dJ0_isLatin1_aae02_18
  · rw [if_neg c1] at hf
    refine g_aload_n C 0 dJ0_isLatin1_aae02_6 rfl ?_
    refine g_scod C sv_15 dJ0_isLatin1_aae02_7 ?_
    refine g_if_ne (y := 0) (tgt := 17) C dJ0_isLatin1_aae02_10 (by decide) (fun c2 => ?_) (fun c2 => ?_)
    · rw [if_neg c2] at hf
      refine g_iconst C dJ0_isLatin1_aae02_17 (v := 0) (by decide) ?_
      exact g_zretR C hR hf (by decide) dJ0_isLatin1_aae02_18
    · rw [if_pos c2] at hf
      refine g_iconst C dJ0_isLatin1_aae02_13 (v := 1) (by decide) ?_
      refine g_goto (tgt := 18) C dJ0_isLatin1_aae02_14 (by decide) ?_
      exact g_zretR C hR hf (by decide) dJ0_isLatin1_aae02_18
abbrev rm_J0_coder_7d493 : Room := { frames := 0, cells := 0, slots := 0, locals := 0 }
set_option maxRecDepth 100000 in
set_option maxHeartbeats 4000000 in
theorem c_J0_coder_7d493 (l : Launch) (E : EV) {σ : ST} {rr : Int32} (hf : f_J0_coder_7d493 = some rr) : CT l E yJ0_coder_7d493 cJ0_coder_7d493 1 (some .byte) rm_J0_coder_7d493 [.ref (E.2.2.2.1 0)] σ (some (.int rr)) σ := by
  refine CT.of RJ0 rfl (by decide) (Nat.le_of_ble_eq_true rfl) rfl rfl (fun Γ C hR => ?_)
  show GW Γ 1 E σ 0 [(0, .ref (E.2.2.2.1 0))] []
  rw [f_J0_coder_7d493] at hf
  refine g_scomp C sv_38 dJ0_coder_7d493_0 ?_
  refine g_if_eq (y := 0) (tgt := 13) C dJ0_coder_7d493_3 (by decide) (fun c1 => ?_) (fun c1 => ?_)
  · rw [if_pos c1] at hf
    refine g_iconst C dJ0_coder_7d493_13 (v := 1) (by decide) ?_
    exact g_bretR C hR hf (by decide) dJ0_coder_7d493_14
  · rw [if_neg c1] at hf
    refine g_aload_n C 0 dJ0_coder_7d493_6 rfl ?_
    refine g_scod C sv_15 dJ0_coder_7d493_7 ?_
    refine g_goto (tgt := 14) C dJ0_coder_7d493_10 (by decide) ?_
    exact g_bretR C hR hf (by decide) dJ0_coder_7d493_14
abbrev rm_J0_length_8abf5 : Room := { frames := 1, cells := 0, slots := 0, locals := 20 }
set_option maxRecDepth 100000 in
set_option maxHeartbeats 4000000 in
theorem c_J0_length_8abf5 (l : Launch) (E : EV) {σ : ST} {rr : Int32} (hf : f_J0_length_8abf5 = some rr) : CT l E yJ0_length_8abf5 cJ0_length_8abf5 1 (some .int) rm_J0_length_8abf5 [.ref (E.2.2.2.1 0)] σ (some (.int rr)) σ := by
  refine CT.of RJ0 rfl (by decide) (Nat.le_of_ble_eq_true rfl) rfl rfl (fun Γ C hR => ?_)
  show GW Γ 1 E σ 0 [(0, .ref (E.2.2.2.1 0))] []
  rw [f_J0_length_8abf5] at hf
  refine g_aload_n C 0 dJ0_length_8abf5_0 rfl ?_
  refine g_sval C sv_9 dJ0_length_8abf5_1 ?_
  refine g_blen C dJ0_length_8abf5_4 ?_
  refine g_aload_n C 0 dJ0_length_8abf5_5 rfl ?_
  obtain ⟨r2, h1, hf⟩ := o_bind hf
  refine g_callVS C (c_J0_coder_7d493 l E h1) k_J0_335 ⟨rfl, rfl, Nat.le_of_ble_eq_true rfl, Nat.le_of_ble_eq_true rfl⟩ rfl (Nat.le_of_ble_eq_true rfl) dJ0_length_8abf5_6 _ rfl ?_
  refine g_ishr C dJ0_length_8abf5_9 ?_
  exact g_iretR C hR hf dJ0_length_8abf5_10
abbrev rm_J1_canEncode_9a6ad : Room := { frames := 0, cells := 0, slots := 0, locals := 0 }
set_option maxRecDepth 100000 in
set_option maxHeartbeats 4000000 in
theorem c_J1_canEncode_9a6ad (l : Launch) (E : EV) {σ : ST} {p0 : Int32} {rr : Int32} (hf : f_J1_canEncode_9a6ad p0 = some rr) : CT l E yJ1_canEncode_9a6ad cJ1_canEncode_9a6ad 1 (some .boolean) rm_J1_canEncode_9a6ad [.int p0] σ (some (.int rr)) σ := by
  refine CT.of RJ1 rfl (by decide) (Nat.le_of_ble_eq_true rfl) rfl rfl (fun Γ C hR => ?_)
  show GW Γ 1 E σ 0 [(0, .int p0)] []
  rw [f_J1_canEncode_9a6ad] at hf
  refine g_iload_n C 0 dJ1_canEncode_9a6ad_0 rfl ?_
  refine g_if_lt (y := 0) (tgt := 15) C dJ1_canEncode_9a6ad_1 (by decide) (fun c1 => ?_) (fun c1 => ?_)
  · rw [if_pos c1] at hf
    refine g_iconst C dJ1_canEncode_9a6ad_15 (v := 0) (by decide) ?_
    exact g_zretR C hR hf (by decide) dJ1_canEncode_9a6ad_16
  · rw [if_neg c1] at hf
    refine g_iload_n C 0 dJ1_canEncode_9a6ad_4 rfl ?_
    refine g_sipush C dJ1_canEncode_9a6ad_5 (v := 255) (by decide) ?_
    refine g_icmp_gt (tgt := 15) C dJ1_canEncode_9a6ad_8 (by decide) (fun c2 => ?_) (fun c2 => ?_)
    · rw [if_pos c2] at hf
      refine g_iconst C dJ1_canEncode_9a6ad_15 (v := 0) (by decide) ?_
      exact g_zretR C hR hf (by decide) dJ1_canEncode_9a6ad_16
    · rw [if_neg c2] at hf
      refine g_iconst C dJ1_canEncode_9a6ad_11 (v := 1) (by decide) ?_
      refine g_goto (tgt := 16) C dJ1_canEncode_9a6ad_12 (by decide) ?_
      exact g_zretR C hR hf (by decide) dJ1_canEncode_9a6ad_16
abbrev rm_J1_indexOfChar_4cfef : Room := { frames := 0, cells := 0, slots := 0, locals := 0 }
set_option maxRecDepth 100000 in
set_option maxHeartbeats 4000000 in
theorem t_J1_indexOfChar_4cfef_L7 {Γ : CX} {l : Launch} {E : EV} {σ : ST} {rr : Int32} (C : FX Γ l cJ1_indexOfChar_4cfef 6 RJ1 rm_J1_indexOfChar_4cfef E) (hR : RT Γ (some .int) E (some (.int rr)) σ) : ∀ (n : Nat) (v3 : Int32) (v4 : Int32) (v5 : Int32), f_J1_indexOfChar_4cfef_L7 n v3 v4 v5 = some rr → GW Γ 6 E σ 7 [(0, .ref (E.2.2.2.2 0)), (3, .int v3), (4, .int v4), (5, .int v5)] [] := by
  intro n
  induction n with
  | zero => intro v3 v4 v5 hf; exact nomatch hf
  | succ n ih =>
    intro v3 v4 v5 hf
    rw [f_J1_indexOfChar_4cfef_L7] at hf
    refine g_iload C 3 dJ1_indexOfChar_4cfef_7 rfl ?_
    refine g_iload_n C 1 dJ1_indexOfChar_4cfef_9 rfl ?_
    refine g_icmp_ge (tgt := 31) C dJ1_indexOfChar_4cfef_10 (by decide) (fun c2 => ?_) (fun c2 => ?_)
    · rw [if_pos c2] at hf
      refine g_iconst C dJ1_indexOfChar_4cfef_31 (v := (-1)) (by decide) ?_
      exact g_iretR C hR hf dJ1_indexOfChar_4cfef_32
    · rw [if_neg c2] at hf
      refine g_aload_n C 0 dJ1_indexOfChar_4cfef_13 rfl ?_
      refine g_iload C 3 dJ1_indexOfChar_4cfef_14 rfl ?_
      obtain ⟨h3, hf⟩ := o_if hf
      refine g_bald C dJ1_indexOfChar_4cfef_16 h3 ?_
      refine g_iload C 2 dJ1_indexOfChar_4cfef_17 rfl ?_
      refine g_icmp_ne (tgt := 25) C dJ1_indexOfChar_4cfef_19 (by decide) (fun c4 => ?_) (fun c4 => ?_)
      · rw [if_neg c4] at hf
        obtain ⟨x5, hx5, hf⟩ := o_let hf
        refine g_iinc C 3 dJ1_indexOfChar_4cfef_25 rfl hx5 (by decide) [(5, .int x5), (0, .ref (E.2.2.2.2 0)), (3, .int v3), (4, .int v4)] rfl ?_
        refine g_goto (tgt := 7) C dJ1_indexOfChar_4cfef_28 (by decide) ?_
        exact g_lv [(0, .ref (E.2.2.2.2 0)), (3, .int v3), (4, .int v4), (5, .int x5)] [1, 2, 3, 0] rfl (ih v3 v4 x5 hf)
      · rw [if_pos c4] at hf
        refine g_iload C 3 dJ1_indexOfChar_4cfef_22 rfl ?_
        exact g_iretR C hR hf dJ1_indexOfChar_4cfef_24
set_option maxRecDepth 100000 in
set_option maxHeartbeats 4000000 in
theorem c_J1_indexOfChar_4cfef (l : Launch) (E : EV) {σ : ST} {p1 : Int32} {p2 : Int32} {p3 : Int32} {rr : Int32} (hf : f_J1_indexOfChar_4cfef p1 p2 p3 = some rr) : CT l E yJ1_indexOfChar_4cfef cJ1_indexOfChar_4cfef 6 (some .int) rm_J1_indexOfChar_4cfef [.ref (E.2.2.2.2 0), .int p1, .int p2, .int p3] σ (some (.int rr)) σ := by
  refine CT.of RJ1 rfl (by decide) (Nat.le_of_ble_eq_true rfl) rfl rfl (fun Γ C hR => ?_)
  show GW Γ 6 E σ 0 [(0, .ref (E.2.2.2.2 0)), (1, .int p1), (2, .int p2), (3, .int p3)] []
  rw [f_J1_indexOfChar_4cfef] at hf
  refine g_iload_n C 1 dJ1_indexOfChar_4cfef_0 rfl ?_
  refine g_i2b C dJ1_indexOfChar_4cfef_1 ?_
  obtain ⟨x1, hx1, hf⟩ := o_let hf
  refine g_topi hx1 ?_
  refine g_istore C dJ1_indexOfChar_4cfef_2 (by decide) [(4, .int x1), (0, .ref (E.2.2.2.2 0)), (1, .int p1), (2, .int p2), (3, .int p3)] rfl ?_
  refine g_iload_n C 3 dJ1_indexOfChar_4cfef_4 rfl ?_
  refine g_istore C dJ1_indexOfChar_4cfef_5 (by decide) [(5, .int p2), (4, .int x1), (0, .ref (E.2.2.2.2 0)), (1, .int p1), (2, .int p2), (3, .int p3)] rfl ?_
  exact g_lv [(0, .ref (E.2.2.2.2 0)), (3, .int p3), (4, .int x1), (5, .int p2)] [2, 5, 1, 0] rfl (t_J1_indexOfChar_4cfef_L7 C hR fuel p3 x1 p2 hf)
abbrev rm_J1_indexOf_4cfef : Room := { frames := 1, cells := 0, slots := 0, locals := 25 }
set_option maxRecDepth 100000 in
set_option maxHeartbeats 4000000 in
theorem c_J1_indexOf_4cfef (l : Launch) (E : EV) {σ : ST} {p1 : Int32} {p2 : Int32} {p3 : Int32} {rr : Int32} (hf : f_J1_indexOf_4cfef p1 p2 p3 = some rr) : CT l E yJ1_indexOf_4cfef cJ1_indexOf_4cfef 4 (some .int) rm_J1_indexOf_4cfef [.ref (E.2.2.2.2 0), .int p1, .int p2, .int p3] σ (some (.int rr)) σ := by
  refine CT.of RJ1 rfl (by decide) (Nat.le_of_ble_eq_true rfl) rfl rfl (fun Γ C hR => ?_)
  show GW Γ 4 E σ 0 [(0, .ref (E.2.2.2.2 0)), (1, .int p1), (2, .int p2), (3, .int p3)] []
  rw [f_J1_indexOf_4cfef] at hf
  refine g_iload_n C 1 dJ1_indexOf_4cfef_0 rfl ?_
  obtain ⟨r2, h1, hf⟩ := o_bind hf
  refine g_callS C (c_J1_canEncode_9a6ad l E h1) k_J1_88 ⟨rfl, rfl, Nat.le_of_ble_eq_true rfl, Nat.le_of_ble_eq_true rfl⟩ rfl (Nat.le_of_ble_eq_true rfl) dJ1_indexOf_4cfef_1 _ rfl ?_
  refine g_if_ne (y := 0) (tgt := 9) C dJ1_indexOf_4cfef_4 (by decide) (fun c3 => ?_) (fun c3 => ?_)
  · rw [if_neg c3] at hf
    refine g_iload_n C 2 dJ1_indexOf_4cfef_9 rfl ?_
    refine g_iconst C dJ1_indexOf_4cfef_10 (v := 0) (by decide) ?_
    refine g_mmax C dJ1_indexOf_4cfef_11 mk_J1_92 (Nat.le_of_ble_eq_true rfl) (Nat.le_of_ble_eq_true rfl) ?_
    obtain ⟨x4, hx4, hf⟩ := o_let hf
    refine g_topi hx4 ?_
    refine g_istore_n C dJ1_indexOf_4cfef_14 (by decide) [(2, .int x4), (0, .ref (E.2.2.2.2 0)), (1, .int p1), (3, .int p3)] rfl ?_
    refine g_iload_n C 3 dJ1_indexOf_4cfef_15 rfl ?_
    refine g_aload_n C 1 dJ1_indexOf_4cfef_16 rfl ?_
    refine g_blen C dJ1_indexOf_4cfef_17 ?_
    refine g_mmin C dJ1_indexOf_4cfef_18 mk_J1_38 (Nat.le_of_ble_eq_true rfl) (Nat.le_of_ble_eq_true rfl) ?_
    obtain ⟨x5, hx5, hf⟩ := o_let hf
    refine g_topi hx5 ?_
    refine g_istore_n C dJ1_indexOf_4cfef_21 (by decide) [(3, .int x5), (2, .int x4), (0, .ref (E.2.2.2.2 0)), (1, .int p1)] rfl ?_
    refine g_iload_n C 1 dJ1_indexOf_4cfef_22 rfl ?_
    refine g_iload_n C 0 dJ1_indexOf_4cfef_23 rfl ?_
    refine g_icmp_lt (tgt := 29) C dJ1_indexOf_4cfef_24 (by decide) (fun c6 => ?_) (fun c6 => ?_)
    · rw [if_pos c6] at hf
      refine g_aload_n C 2 dJ1_indexOf_4cfef_29 rfl ?_
      refine g_iload_n C 3 dJ1_indexOf_4cfef_30 rfl ?_
      refine g_iload_n C 1 dJ1_indexOf_4cfef_31 rfl ?_
      refine g_iload_n C 0 dJ1_indexOf_4cfef_32 rfl ?_
      obtain ⟨r8, h7, hf⟩ := o_bind hf
      refine g_callS C (c_J1_indexOfChar_4cfef l E h7) k_J1_95 ⟨rfl, rfl, Nat.le_of_ble_eq_true rfl, Nat.le_of_ble_eq_true rfl⟩ rfl (Nat.le_of_ble_eq_true rfl) dJ1_indexOf_4cfef_33 _ rfl ?_
      exact g_iretR C hR hf dJ1_indexOf_4cfef_36
    · rw [if_neg c6] at hf
      refine g_iconst C dJ1_indexOf_4cfef_27 (v := (-1)) (by decide) ?_
      exact g_iretR C hR hf dJ1_indexOf_4cfef_28
  · rw [if_pos c3] at hf
    refine g_iconst C dJ1_indexOf_4cfef_7 (v := (-1)) (by decide) ?_
    exact g_iretR C hR hf dJ1_indexOf_4cfef_8
abbrev rm_J0_indexOf_7cf53 : Room := { frames := 2, cells := 0, slots := 0, locals := 48 }
set_option maxRecDepth 100000 in
set_option maxHeartbeats 4000000 in
theorem c_J0_indexOf_7cf53 (l : Launch) (E : EV) {σ : ST} {p0 : Int32} {p1 : Int32} {rr : Int32} (hf : f_J0_indexOf_7cf53 p0 p1 = some rr) : CT l E yJ0_indexOf_7cf53 cJ0_indexOf_7cf53 3 (some .int) rm_J0_indexOf_7cf53 [.ref (E.2.2.2.1 0), .int p0, .int p1] σ (some (.int rr)) σ := by
  refine CT.of RJ0 rfl (by decide) (Nat.le_of_ble_eq_true rfl) rfl rfl (fun Γ C hR => ?_)
  show GW Γ 3 E σ 0 [(0, .ref (E.2.2.2.1 0)), (1, .int p0), (2, .int p1)] []
  rw [f_J0_indexOf_7cf53] at hf
  refine g_aload_n C 0 dJ0_indexOf_7cf53_0 rfl ?_
  obtain ⟨r2, h1, hf⟩ := o_bind hf
  refine g_callVS C (c_J0_isLatin1_aae02 l E h1) k_J0_492 ⟨rfl, rfl, Nat.le_of_ble_eq_true rfl, Nat.le_of_ble_eq_true rfl⟩ rfl (Nat.le_of_ble_eq_true rfl) dJ0_indexOf_7cf53_1 _ rfl ?_
  refine g_if_eq (y := 0) (tgt := 23) C dJ0_indexOf_7cf53_4 (by decide) (fun c3 => ?_) (fun c3 => ?_)
  · rw [if_pos c3] at hf
    refine g_aload_n C 0 dJ0_indexOf_7cf53_23 rfl ?_
    refine g_sval C sv_9 dJ0_indexOf_7cf53_24 ?_
    refine g_iload_n C 1 dJ0_indexOf_7cf53_27 rfl ?_
    refine g_iload_n C 2 dJ0_indexOf_7cf53_28 rfl ?_
    refine g_aload_n C 0 dJ0_indexOf_7cf53_29 rfl ?_
    obtain ⟨r5, h4, hf⟩ := o_bind hf
    refine g_callVS C (c_J0_length_8abf5 l E h4) k_J0_505 ⟨rfl, rfl, Nat.le_of_ble_eq_true rfl, Nat.le_of_ble_eq_true rfl⟩ rfl (Nat.le_of_ble_eq_true rfl) dJ0_indexOf_7cf53_30 _ rfl ?_
    exact nomatch hf
  · rw [if_neg c3] at hf
    refine g_aload_n C 0 dJ0_indexOf_7cf53_7 rfl ?_
    refine g_sval C sv_9 dJ0_indexOf_7cf53_8 ?_
    refine g_iload_n C 1 dJ0_indexOf_7cf53_11 rfl ?_
    refine g_iload_n C 2 dJ0_indexOf_7cf53_12 rfl ?_
    refine g_aload_n C 0 dJ0_indexOf_7cf53_13 rfl ?_
    obtain ⟨r7, h6, hf⟩ := o_bind hf
    refine g_callVS C (c_J0_length_8abf5 l E h6) k_J0_505 ⟨rfl, rfl, Nat.le_of_ble_eq_true rfl, Nat.le_of_ble_eq_true rfl⟩ rfl (Nat.le_of_ble_eq_true rfl) dJ0_indexOf_7cf53_14 _ rfl ?_
    obtain ⟨r9, h8, hf⟩ := o_bind hf
    refine g_callS C (c_J1_indexOf_4cfef l E h8) k_J0_637 ⟨rfl, rfl, Nat.le_of_ble_eq_true rfl, Nat.le_of_ble_eq_true rfl⟩ rfl (Nat.le_of_ble_eq_true rfl) dJ0_indexOf_7cf53_17 _ rfl ?_
    refine g_goto (tgt := 36) C dJ0_indexOf_7cf53_20 (by decide) ?_
    exact g_iretR C hR hf dJ0_indexOf_7cf53_36
abbrev rm_J0_indexOf_0f7a4 : Room := { frames := 3, cells := 0, slots := 0, locals := 70 }
set_option maxRecDepth 100000 in
set_option maxHeartbeats 4000000 in
theorem c_J0_indexOf_0f7a4 (l : Launch) (E : EV) {σ : ST} {p0 : Int32} {rr : Int32} (hf : f_J0_indexOf_0f7a4 p0 = some rr) : CT l E yJ0_indexOf_0f7a4 cJ0_indexOf_0f7a4 2 (some .int) rm_J0_indexOf_0f7a4 [.ref (E.2.2.2.1 0), .int p0] σ (some (.int rr)) σ := by
  refine CT.of RJ0 rfl (by decide) (Nat.le_of_ble_eq_true rfl) rfl rfl (fun Γ C hR => ?_)
  show GW Γ 2 E σ 0 [(0, .ref (E.2.2.2.1 0)), (1, .int p0)] []
  rw [f_J0_indexOf_0f7a4] at hf
  refine g_aload_n C 0 dJ0_indexOf_0f7a4_0 rfl ?_
  refine g_iload_n C 1 dJ0_indexOf_0f7a4_1 rfl ?_
  refine g_iconst C dJ0_indexOf_0f7a4_2 (v := 0) (by decide) ?_
  obtain ⟨r2, h1, hf⟩ := o_bind hf
  refine g_callVS C (c_J0_indexOf_7cf53 l E h1) k_J0_633 ⟨rfl, rfl, Nat.le_of_ble_eq_true rfl, Nat.le_of_ble_eq_true rfl⟩ rfl (Nat.le_of_ble_eq_true rfl) dJ0_indexOf_0f7a4_3 _ rfl ?_
  exact g_iretR C hR hf dJ0_indexOf_0f7a4_6
abbrev rm_X8_note : Room := { frames := 0, cells := 0, slots := 0, locals := 0 }
set_option maxRecDepth 100000 in
set_option maxHeartbeats 4000000 in
theorem c_X8_note (l : Launch) (E : EV) {σ : ST} {p0 : Int64} {p1 : Int32} {rr : Int32} (hf : f_X8_note p0 p1 = some rr) : CT l E yX8_note cX8_note 3 (some .int) rm_X8_note [.long p0, .int p1] σ (some (.int rr)) σ := by
  refine CT.of RX8 rfl (by decide) (Nat.le_of_ble_eq_true rfl) rfl rfl (fun Γ C hR => ?_)
  show GW Γ 3 E σ 0 [(0, .long p0), (2, .int p1)] []
  rw [f_X8_note] at hf
  refine g_iload_n C 1 dX8_note_0 rfl ?_
  refine g_if_lt (y := 0) (tgt := 10) C dX8_note_1 (by decide) (fun c1 => ?_) (fun c1 => ?_)
  · rw [if_pos c1] at hf
    refine g_iconst C dX8_note_10 (v := (-1)) (by decide) ?_
    exact g_iretR C hR hf dX8_note_11
  · rw [if_neg c1] at hf
    refine g_iload_n C 1 dX8_note_4 rfl ?_
    refine g_bipush C dX8_note_5 (v := 8) (by decide) ?_
    refine g_icmp_lt (tgt := 12) C dX8_note_7 (by decide) (fun c2 => ?_) (fun c2 => ?_)
    · rw [if_pos c2] at hf
      refine g_lload_n C 0 dX8_note_12 rfl ?_
      refine g_iconst C dX8_note_13 (v := 4) (by decide) ?_
      refine g_iload_n C 1 dX8_note_14 rfl ?_
      refine g_imul C dX8_note_15 ?_
      refine g_lushr C dX8_note_16 ?_
      refine g_ldc2 C dX8_note_17 (v := 15) kl_X8_9 ?_
      refine g_land C dX8_note_20 ?_
      refine g_l2i C dX8_note_21 ?_
      refine g_iconst C dX8_note_22 (v := 1) (by decide) ?_
      refine g_isub C dX8_note_23 ?_
      exact g_iretR C hR hf dX8_note_24
    · rw [if_neg c2] at hf
      refine g_iconst C dX8_note_10 (v := (-1)) (by decide) ?_
      exact g_iretR C hR hf dX8_note_11
abbrev rm_X8_with : Room := { frames := 0, cells := 0, slots := 0, locals := 0 }
set_option maxRecDepth 100000 in
set_option maxHeartbeats 4000000 in
theorem c_X8_with (l : Launch) (E : EV) {σ : ST} {p0 : Int64} {p1 : Int32} {p2 : Int32} {rr : Int64} (hf : f_X8_with p0 p1 p2 = some rr) : CT l E yX8_with cX8_with 5 (some .long) rm_X8_with [.long p0, .int p1, .int p2] σ (some (.long rr)) σ := by
  refine CT.of RX8 rfl (by decide) (Nat.le_of_ble_eq_true rfl) rfl rfl (fun Γ C hR => ?_)
  show GW Γ 5 E σ 0 [(0, .long p0), (2, .int p1), (3, .int p2)] []
  rw [f_X8_with] at hf
  refine g_iconst C dX8_with_0 (v := 4) (by decide) ?_
  refine g_iload_n C 1 dX8_with_1 rfl ?_
  refine g_imul C dX8_with_2 ?_
  obtain ⟨x1, hx1, hf⟩ := o_let hf
  refine g_topi hx1 ?_
  refine g_istore C dX8_with_3 (by decide) [(4, .int x1), (0, .long p0), (2, .int p1), (3, .int p2)] rfl ?_
  refine g_lload_n C 1 dX8_with_5 rfl ?_
  refine g_ldc2 C dX8_with_6 (v := 15) kl_X8_9 ?_
  refine g_iload C 0 dX8_with_9 rfl ?_
  refine g_lshl C dX8_with_11 ?_
  refine g_ldc2 C dX8_with_12 (v := (-1)) kl_X8_11 ?_
  refine g_lxor C dX8_with_15 ?_
  refine g_land C dX8_with_16 ?_
  refine g_iload_n C 3 dX8_with_17 rfl ?_
  refine g_i2l C dX8_with_18 ?_
  refine g_lconst C dX8_with_19 (v := 1) (by decide) ?_
  refine g_ladd C dX8_with_20 ?_
  refine g_iload C 0 dX8_with_21 rfl ?_
  refine g_lshl C dX8_with_23 ?_
  refine g_lor C dX8_with_24 ?_
  exact g_lretR C hR hf dX8_with_25
abbrev rm_X8_length : Room := { frames := 1, cells := 0, slots := 0, locals := 22 }
set_option maxRecDepth 100000 in
set_option maxHeartbeats 4000000 in
theorem t_X8_length_L2 {Γ : CX} {l : Launch} {E : EV} {σ : ST} {rr : Int32} (C : FX Γ l cX8_length 3 RX8 rm_X8_length E) (hR : RT Γ (some .int) E (some (.int rr)) σ) : ∀ (n : Nat) (v0 : Int64) (v2 : Int32), f_X8_length_L2 n v0 v2 = some rr → GW Γ 3 E σ 2 [(0, .long v0), (2, .int v2)] [] := by
  intro n
  induction n with
  | zero => intro v0 v2 hf; exact nomatch hf
  | succ n ih =>
    intro v0 v2 hf
    rw [f_X8_length_L2] at hf
    refine g_iload_n C 1 dX8_length_2 rfl ?_
    refine g_bipush C dX8_length_3 (v := 8) (by decide) ?_
    refine g_icmp_ge (tgt := 23) C dX8_length_5 (by decide) (fun c1 => ?_) (fun c1 => ?_)
    · rw [if_pos c1] at hf
      refine g_iload_n C 1 dX8_length_23 rfl ?_
      exact g_iretR C hR hf dX8_length_24
    · rw [if_neg c1] at hf
      refine g_lload_n C 0 dX8_length_8 rfl ?_
      refine g_iload_n C 1 dX8_length_9 rfl ?_
      obtain ⟨r3, h2, hf⟩ := o_bind hf
      refine g_callS C (c_X8_note l E h2) k_X8_13 ⟨rfl, rfl, Nat.le_of_ble_eq_true rfl, Nat.le_of_ble_eq_true rfl⟩ rfl (Nat.le_of_ble_eq_true rfl) dX8_length_10 _ rfl ?_
      refine g_iconst C dX8_length_13 (v := (-1)) (by decide) ?_
      refine g_icmp_eq (tgt := 23) C dX8_length_14 (by decide) (fun c4 => ?_) (fun c4 => ?_)
      · rw [if_pos c4] at hf
        refine g_iload_n C 1 dX8_length_23 rfl ?_
        exact g_iretR C hR hf dX8_length_24
      · rw [if_neg c4] at hf
        obtain ⟨x5, hx5, hf⟩ := o_let hf
        refine g_iinc C 1 dX8_length_17 rfl hx5 (by decide) [(2, .int x5), (0, .long v0)] rfl ?_
        refine g_goto (tgt := 2) C dX8_length_20 (by decide) ?_
        exact g_lv [(0, .long v0), (2, .int x5)] [1, 0] rfl (ih v0 x5 hf)
set_option maxRecDepth 100000 in
set_option maxHeartbeats 4000000 in
theorem c_X8_length (l : Launch) (E : EV) {σ : ST} {p0 : Int64} {rr : Int32} (hf : f_X8_length p0 = some rr) : CT l E yX8_length cX8_length 3 (some .int) rm_X8_length [.long p0] σ (some (.int rr)) σ := by
  refine CT.of RX8 rfl (by decide) (Nat.le_of_ble_eq_true rfl) rfl rfl (fun Γ C hR => ?_)
  show GW Γ 3 E σ 0 [(0, .long p0)] []
  rw [f_X8_length] at hf
  refine g_iconst C dX8_length_0 (v := 0) (by decide) ?_
  refine g_istore_n C dX8_length_1 (by decide) [(2, .int 0), (0, .long p0)] rfl ?_
  exact g_lv [(0, .long p0), (2, .int 0)] [1, 0] rfl (t_X8_length_L2 C hR fuel p0 0 hf)
abbrev rm_X8_above : Room := { frames := 0, cells := 0, slots := 0, locals := 0 }
set_option maxRecDepth 100000 in
set_option maxHeartbeats 4000000 in
theorem c_X8_above (l : Launch) (E : EV) {σ : ST} {p0 : Int32} {p1 : Int32} {rr : Int32} (hf : f_X8_above p0 p1 = some rr) : CT l E yX8_above cX8_above 2 (some .int) rm_X8_above [.int p0, .int p1] σ (some (.int rr)) σ := by
  refine CT.of RX8 rfl (by decide) (Nat.le_of_ble_eq_true rfl) rfl rfl (fun Γ C hR => ?_)
  show GW Γ 2 E σ 0 [(0, .int p0), (1, .int p1)] []
  rw [f_X8_above] at hf
  refine g_iload_n C 0 dX8_above_0 rfl ?_
  refine g_iload_n C 1 dX8_above_1 rfl ?_
  refine g_isub C dX8_above_2 ?_
  refine g_bipush C dX8_above_3 (v := 12) (by decide) ?_
  refine g_iadd C dX8_above_5 ?_
  refine g_bipush C dX8_above_6 (v := 12) (by decide) ?_
  refine g_irem C dX8_above_8 (by decide) ?_
  exact g_iretR C hR hf dX8_above_9
abbrev rm_X8_tritones : Room := { frames := 1, cells := 0, slots := 0, locals := 22 }
set_option maxRecDepth 100000 in
set_option maxHeartbeats 4000000 in
theorem t_X8_tritones_L4 {Γ : CX} {l : Launch} {E : EV} {σ : ST} {rr : Int32} (C : FX Γ l cX8_tritones 4 RX8 rm_X8_tritones E) (hR : RT Γ (some .int) E (some (.int rr)) σ) : ∀ (n : Nat) (v0 : Int64) (v2 : Int32) (v3 : Int32), f_X8_tritones_L4 n v0 v2 v3 = some rr → GW Γ 4 E σ 4 [(0, .long v0), (2, .int v2), (3, .int v3)] [] := by
  intro n
  induction n with
  | zero => intro v0 v2 v3 hf; exact nomatch hf
  | succ n ih =>
    intro v0 v2 v3 hf
    rw [f_X8_tritones_L4] at hf
    refine g_iload_n C 2 dX8_tritones_4 rfl ?_
    refine g_bipush C dX8_tritones_5 (v := 8) (by decide) ?_
    refine g_icmp_ge (tgt := 49) C dX8_tritones_7 (by decide) (fun c1 => ?_) (fun c1 => ?_)
    · rw [if_pos c1] at hf
      refine g_iload_n C 1 dX8_tritones_49 rfl ?_
      exact g_iretR C hR hf dX8_tritones_50
    · rw [if_neg c1] at hf
      refine g_lload_n C 0 dX8_tritones_10 rfl ?_
      refine g_iload_n C 2 dX8_tritones_11 rfl ?_
      obtain ⟨r3, h2, hf⟩ := o_bind hf
      refine g_callS C (c_X8_note l E h2) k_X8_13 ⟨rfl, rfl, Nat.le_of_ble_eq_true rfl, Nat.le_of_ble_eq_true rfl⟩ rfl (Nat.le_of_ble_eq_true rfl) dX8_tritones_12 _ rfl ?_
      refine g_iconst C dX8_tritones_15 (v := (-1)) (by decide) ?_
      refine g_icmp_eq (tgt := 49) C dX8_tritones_16 (by decide) (fun c4 => ?_) (fun c4 => ?_)
      · rw [if_pos c4] at hf
        refine g_iload_n C 1 dX8_tritones_49 rfl ?_
        exact g_iretR C hR hf dX8_tritones_50
      · rw [if_neg c4] at hf
        refine g_lload_n C 0 dX8_tritones_19 rfl ?_
        refine g_iload_n C 2 dX8_tritones_20 rfl ?_
        obtain ⟨r6, h5, hf⟩ := o_bind hf
        refine g_callS C (c_X8_note l E h5) k_X8_13 ⟨rfl, rfl, Nat.le_of_ble_eq_true rfl, Nat.le_of_ble_eq_true rfl⟩ rfl (Nat.le_of_ble_eq_true rfl) dX8_tritones_21 _ rfl ?_
        refine g_lload_n C 0 dX8_tritones_24 rfl ?_
        refine g_iload_n C 2 dX8_tritones_25 rfl ?_
        refine g_iconst C dX8_tritones_26 (v := 1) (by decide) ?_
        refine g_isub C dX8_tritones_27 ?_
        obtain ⟨r8, h7, hf⟩ := o_bind hf
        refine g_callS C (c_X8_note l E h7) k_X8_13 ⟨rfl, rfl, Nat.le_of_ble_eq_true rfl, Nat.le_of_ble_eq_true rfl⟩ rfl (Nat.le_of_ble_eq_true rfl) dX8_tritones_28 _ rfl ?_
        refine g_isub C dX8_tritones_31 ?_
        refine g_mabs (y := 0) C dX8_tritones_32 mk_X8_19 (Nat.le_of_ble_eq_true rfl) (Nat.le_of_ble_eq_true rfl) ?_
        refine g_bipush C dX8_tritones_35 (v := 6) (by decide) ?_
        obtain ⟨x9, ex9, hf⟩ := o_let hf
        have Kx9 : GW Γ 4 E σ 43 [(0, .long v0), (2, .int x9), (3, .int v3)] [] := by
          obtain ⟨x11, hx11, hf⟩ := o_let hf
          refine g_iinc C 2 dX8_tritones_43 rfl hx11 (by decide) [(3, .int x11), (0, .long v0), (2, .int x9)] rfl ?_
          refine g_goto (tgt := 4) C dX8_tritones_46 (by decide) ?_
          exact g_lv [(0, .long v0), (2, .int x9), (3, .int x11)] [1, 2, 0] rfl (ih v0 x9 x11 hf)
        refine g_icmp_ne (tgt := 43) C dX8_tritones_37 (by decide) (fun c10 => ?_) (fun c10 => ?_)
        · rw [if_neg c10] at ex9
          rw [← ex9] at Kx9
          exact g_lv [(0, .long v0), (2, .int v2), (3, .int v3)] [0, 1, 2] rfl Kx9
        · rw [if_pos c10] at ex9
          refine g_iinc C 1 dX8_tritones_40 rfl rfl (by decide) [(2, .int (v2 + 1)), (0, .long v0), (3, .int v3)] rfl ?_
          rw [← ex9] at Kx9
          exact g_lv [(0, .long v0), (2, .int (v2 + 1)), (3, .int v3)] [1, 0, 2] rfl Kx9
set_option maxRecDepth 100000 in
set_option maxHeartbeats 4000000 in
theorem c_X8_tritones (l : Launch) (E : EV) {σ : ST} {p0 : Int64} {rr : Int32} (hf : f_X8_tritones p0 = some rr) : CT l E yX8_tritones cX8_tritones 4 (some .int) rm_X8_tritones [.long p0] σ (some (.int rr)) σ := by
  refine CT.of RX8 rfl (by decide) (Nat.le_of_ble_eq_true rfl) rfl rfl (fun Γ C hR => ?_)
  show GW Γ 4 E σ 0 [(0, .long p0)] []
  rw [f_X8_tritones] at hf
  refine g_iconst C dX8_tritones_0 (v := 0) (by decide) ?_
  refine g_istore_n C dX8_tritones_1 (by decide) [(2, .int 0), (0, .long p0)] rfl ?_
  refine g_iconst C dX8_tritones_2 (v := 1) (by decide) ?_
  refine g_istore_n C dX8_tritones_3 (by decide) [(3, .int 1), (2, .int 0), (0, .long p0)] rfl ?_
  exact g_lv [(0, .long p0), (2, .int 0), (3, .int 1)] [2, 1, 0] rfl (t_X8_tritones_L4 C hR fuel p0 0 1 hf)
abbrev rm_X8_bits : Room := { frames := 2, cells := 0, slots := 0, locals := 44 }
set_option maxRecDepth 100000 in
set_option maxHeartbeats 4000000 in
theorem t_X8_bits_L10 {Γ : CX} {l : Launch} {E : EV} {σ : ST} {rr : Int32} (C : FX Γ l cX8_bits 5 RX8 rm_X8_bits E) (hR : RT Γ (some .int) E (some (.int rr)) σ) : ∀ (n : Nat) (v0 : Int64) (v2 : Int32) (v3 : Int32) (v4 : Int32), f_X8_bits_L10 n v0 v2 v3 v4 = some rr → GW Γ 5 E σ 10 [(0, .long v0), (2, .int v2), (3, .int v3), (4, .int v4)] [] := by
  intro n
  induction n with
  | zero => intro v0 v2 v3 v4 hf; exact nomatch hf
  | succ n ih =>
    intro v0 v2 v3 v4 hf
    rw [f_X8_bits_L10] at hf
    refine g_iload C 3 dX8_bits_10 rfl ?_
    refine g_iload_n C 2 dX8_bits_12 rfl ?_
    refine g_icmp_ge (tgt := 33) C dX8_bits_13 (by decide) (fun c3 => ?_) (fun c3 => ?_)
    · rw [if_pos c3] at hf
      refine g_iload_n C 1 dX8_bits_33 rfl ?_
      exact g_iretR C hR hf dX8_bits_34
    · rw [if_neg c3] at hf
      refine g_iload_n C 1 dX8_bits_16 rfl ?_
      refine g_iconst C dX8_bits_17 (v := 1) (by decide) ?_
      refine g_lload_n C 0 dX8_bits_18 rfl ?_
      refine g_iload C 3 dX8_bits_19 rfl ?_
      obtain ⟨r5, h4, hf⟩ := o_bind hf
      refine g_callS C (c_X8_note l E h4) k_X8_13 ⟨rfl, rfl, Nat.le_of_ble_eq_true rfl, Nat.le_of_ble_eq_true rfl⟩ rfl (Nat.le_of_ble_eq_true rfl) dX8_bits_21 _ rfl ?_
      refine g_ishl C dX8_bits_24 ?_
      refine g_ior C dX8_bits_25 ?_
      obtain ⟨x6, hx6, hf⟩ := o_let hf
      refine g_topi hx6 ?_
      refine g_istore_n C dX8_bits_26 (by decide) [(2, .int x6), (0, .long v0), (3, .int v3), (4, .int v4)] rfl ?_
      obtain ⟨x7, hx7, hf⟩ := o_let hf
      refine g_iinc C 3 dX8_bits_27 rfl hx7 (by decide) [(4, .int x7), (2, .int x6), (0, .long v0), (3, .int v3)] rfl ?_
      refine g_goto (tgt := 10) C dX8_bits_30 (by decide) ?_
      exact g_lv [(0, .long v0), (2, .int x6), (3, .int v3), (4, .int x7)] [2, 1, 3, 0] rfl (ih v0 x6 v3 x7 hf)
set_option maxRecDepth 100000 in
set_option maxHeartbeats 4000000 in
theorem c_X8_bits (l : Launch) (E : EV) {σ : ST} {p0 : Int64} {rr : Int32} (hf : f_X8_bits p0 = some rr) : CT l E yX8_bits cX8_bits 5 (some .int) rm_X8_bits [.long p0] σ (some (.int rr)) σ := by
  refine CT.of RX8 rfl (by decide) (Nat.le_of_ble_eq_true rfl) rfl rfl (fun Γ C hR => ?_)
  show GW Γ 5 E σ 0 [(0, .long p0)] []
  rw [f_X8_bits] at hf
  refine g_iconst C dX8_bits_0 (v := 0) (by decide) ?_
  refine g_istore_n C dX8_bits_1 (by decide) [(2, .int 0), (0, .long p0)] rfl ?_
  refine g_lload_n C 1 dX8_bits_2 rfl ?_
  obtain ⟨r2, h1, hf⟩ := o_bind hf
  refine g_callS C (c_X8_length l E h1) k_X8_25 ⟨rfl, rfl, Nat.le_of_ble_eq_true rfl, Nat.le_of_ble_eq_true rfl⟩ rfl (Nat.le_of_ble_eq_true rfl) dX8_bits_3 _ rfl ?_
  refine g_istore_n C dX8_bits_6 (by decide) [(3, .int r2), (2, .int 0), (0, .long p0)] rfl ?_
  refine g_iconst C dX8_bits_7 (v := 0) (by decide) ?_
  refine g_istore C dX8_bits_8 (by decide) [(4, .int 0), (3, .int r2), (2, .int 0), (0, .long p0)] rfl ?_
  exact g_lv [(0, .long p0), (2, .int 0), (3, .int r2), (4, .int 0)] [3, 2, 1, 0] rfl (t_X8_bits_L10 C hR fuel p0 0 r2 0 hf)
abbrev rm_X8_inKey : Room := { frames := 2, cells := 0, slots := 0, locals := 44 }
set_option maxRecDepth 100000 in
set_option maxHeartbeats 4000000 in
theorem t_X8_inKey_L34 {Γ : CX} {l : Launch} {E : EV} {σ : ST} {rr : Int32} (C : FX Γ l cX8_inKey 8 RX8 rm_X8_inKey E) (hR : RT Γ (some .int) E (some (.int rr)) σ) : ∀ (n : Nat) (v0 : Int64) (v3 : Int32) (v4 : Int32) (v5 : Int32) (v6 : Int32) (v7 : Int32), f_X8_inKey_L34 n v0 v3 v4 v5 v6 v7 = some rr → GW Γ 8 E σ 34 [(0, .long v0), (3, .int v3), (4, .int v4), (5, .int v5), (6, .int v6), (7, .int v7)] [] := by
  intro n
  induction n with
  | zero => intro v0 v3 v4 v5 v6 v7 hf; exact nomatch hf
  | succ n ih =>
    intro v0 v3 v4 v5 v6 v7 hf
    rw [f_X8_inKey_L34] at hf
    refine g_iload C 5 dX8_inKey_34 rfl ?_
    refine g_iload C 3 dX8_inKey_36 rfl ?_
    refine g_icmp_ge (tgt := 67) C dX8_inKey_38 (by decide) (fun c6 => ?_) (fun c6 => ?_)
    · rw [if_pos c6] at hf
      refine g_iload C 4 dX8_inKey_67 rfl ?_
      exact g_iretR C hR hf dX8_inKey_69
    · rw [if_neg c6] at hf
      refine g_iload C 4 dX8_inKey_41 rfl ?_
      refine g_iload_n C 1 dX8_inKey_43 rfl ?_
      refine g_lload_n C 0 dX8_inKey_44 rfl ?_
      refine g_iload C 5 dX8_inKey_45 rfl ?_
      obtain ⟨r8, h7, hf⟩ := o_bind hf
      refine g_callS C (c_X8_note l E h7) k_X8_13 ⟨rfl, rfl, Nat.le_of_ble_eq_true rfl, Nat.le_of_ble_eq_true rfl⟩ rfl (Nat.le_of_ble_eq_true rfl) dX8_inKey_47 _ rfl ?_
      refine g_iload C 2 dX8_inKey_50 rfl ?_
      obtain ⟨r10, h9, hf⟩ := o_bind hf
      refine g_callS C (c_X8_above l E h9) k_X8_32 ⟨rfl, rfl, Nat.le_of_ble_eq_true rfl, Nat.le_of_ble_eq_true rfl⟩ rfl (Nat.le_of_ble_eq_true rfl) dX8_inKey_52 _ rfl ?_
      refine g_ishr C dX8_inKey_55 ?_
      refine g_iconst C dX8_inKey_56 (v := 1) (by decide) ?_
      refine g_iand C dX8_inKey_57 ?_
      refine g_iadd C dX8_inKey_58 ?_
      obtain ⟨x11, hx11, hf⟩ := o_let hf
      refine g_topi hx11 ?_
      refine g_istore C dX8_inKey_59 (by decide) [(6, .int x11), (0, .long v0), (3, .int v3), (4, .int v4), (5, .int v5), (7, .int v7)] rfl ?_
      obtain ⟨x12, hx12, hf⟩ := o_let hf
      refine g_iinc C 5 dX8_inKey_61 rfl hx12 (by decide) [(7, .int x12), (6, .int x11), (0, .long v0), (3, .int v3), (4, .int v4), (5, .int v5)] rfl ?_
      refine g_goto (tgt := 34) C dX8_inKey_64 (by decide) ?_
      exact g_lv [(0, .long v0), (3, .int v3), (4, .int v4), (5, .int v5), (6, .int x11), (7, .int x12)] [2, 3, 4, 5, 1, 0] rfl (ih v0 v3 v4 v5 x11 x12 hf)
set_option maxRecDepth 100000 in
set_option maxHeartbeats 4000000 in
theorem t_X8_inKey_B15 {Γ : CX} {l : Launch} {E : EV} {σ : ST} {rr : Int32} (C : FX Γ l cX8_inKey 8 RX8 rm_X8_inKey E) (hR : RT Γ (some .int) E (some (.int rr)) σ) (v0 : Int64) (v2 : Int32) (s0 : Int32) (hf : f_X8_inKey_B15 v0 v2 s0 = some rr) : GW Γ 8 E σ 15 [(0, .long v0), (2, .int v2)] [.int s0] := by
  rw [f_X8_inKey_B15] at hf
  refine g_istore_n C dX8_inKey_15 (by decide) [(3, .int s0), (0, .long v0), (2, .int v2)] rfl ?_
  refine g_iload_n C 2 dX8_inKey_16 rfl ?_
  refine g_bipush C dX8_inKey_17 (v := 12) (by decide) ?_
  refine g_irem C dX8_inKey_19 (by decide) ?_
  obtain ⟨x3, hx3, hf⟩ := o_let hf
  refine g_topi hx3 ?_
  refine g_istore C dX8_inKey_20 (by decide) [(4, .int x3), (3, .int s0), (0, .long v0), (2, .int v2)] rfl ?_
  refine g_lload_n C 2 dX8_inKey_22 rfl ?_
  obtain ⟨r5, h4, hf⟩ := o_bind hf
  refine g_callS C (c_X8_length l E h4) k_X8_25 ⟨rfl, rfl, Nat.le_of_ble_eq_true rfl, Nat.le_of_ble_eq_true rfl⟩ rfl (Nat.le_of_ble_eq_true rfl) dX8_inKey_23 _ rfl ?_
  refine g_istore C dX8_inKey_26 (by decide) [(5, .int r5), (4, .int x3), (3, .int s0), (0, .long v0), (2, .int v2)] rfl ?_
  refine g_iconst C dX8_inKey_28 (v := 0) (by decide) ?_
  refine g_istore C dX8_inKey_29 (by decide) [(6, .int 0), (5, .int r5), (4, .int x3), (3, .int s0), (0, .long v0), (2, .int v2)] rfl ?_
  refine g_iconst C dX8_inKey_31 (v := 0) (by decide) ?_
  refine g_istore C dX8_inKey_32 (by decide) [(7, .int 0), (6, .int 0), (5, .int r5), (4, .int x3), (3, .int s0), (0, .long v0), (2, .int v2)] rfl ?_
  exact g_lv [(0, .long v0), (3, .int s0), (4, .int x3), (5, .int r5), (6, .int 0), (7, .int 0)] [5, 4, 3, 2, 1, 0] rfl (t_X8_inKey_L34 C hR fuel v0 s0 x3 r5 0 0 hf)
set_option maxRecDepth 100000 in
set_option maxHeartbeats 4000000 in
theorem c_X8_inKey (l : Launch) (E : EV) {σ : ST} {p0 : Int64} {p1 : Int32} {rr : Int32} (hf : f_X8_inKey p0 p1 = some rr) : CT l E yX8_inKey cX8_inKey 8 (some .int) rm_X8_inKey [.long p0, .int p1] σ (some (.int rr)) σ := by
  refine CT.of RX8 rfl (by decide) (Nat.le_of_ble_eq_true rfl) rfl rfl (fun Γ C hR => ?_)
  show GW Γ 8 E σ 0 [(0, .long p0), (2, .int p1)] []
  rw [f_X8_inKey] at hf
  refine g_iload_n C 1 dX8_inKey_0 rfl ?_
  refine g_bipush C dX8_inKey_1 (v := 12) (by decide) ?_
  obtain ⟨x1, ex1, hf⟩ := o_let hf
  have Kx1 : GW Γ 8 E σ 15 [(0, .long p0), (2, .int p1)] [.int x1] := by
    exact t_X8_inKey_B15 C hR p0 p1 x1 hf
  refine g_icmp_ge (tgt := 12) C dX8_inKey_3 (by decide) (fun c2 => ?_) (fun c2 => ?_)
  · rw [if_pos c2] at ex1
    refine g_sipush C dX8_inKey_12 (v := 1453) (by decide) ?_
    rw [← ex1] at Kx1
    exact g_lv [(0, .long p0), (2, .int p1)] [0, 1] rfl Kx1
  · rw [if_neg c2] at ex1
    refine g_sipush C dX8_inKey_6 (v := 2741) (by decide) ?_
    refine g_goto (tgt := 15) C dX8_inKey_9 (by decide) ?_
    rw [← ex1] at Kx1
    exact g_lv [(0, .long p0), (2, .int p1)] [0, 1] rfl Kx1
abbrev rm_X8_key : Room := { frames := 3, cells := 0, slots := 0, locals := 71 }
set_option maxRecDepth 100000 in
set_option maxHeartbeats 4000000 in
theorem t_X8_key_L11 {Γ : CX} {l : Launch} {E : EV} {σ : ST} {rr : Int32} (C : FX Γ l cX8_key 6 RX8 rm_X8_key E) (hR : RT Γ (some .int) E (some (.int rr)) σ) : ∀ (n : Nat) (v0 : Int64) (v2 : Int32) (v3 : Int32) (v4 : Int32), f_X8_key_L11 n v0 v2 v3 v4 = some rr → GW Γ 6 E σ 11 [(0, .long v0), (2, .int v2), (3, .int v3), (4, .int v4)] [] := by
  intro n
  induction n with
  | zero => intro v0 v2 v3 v4 hf; exact nomatch hf
  | succ n ih =>
    intro v0 v2 v3 v4 hf
    rw [f_X8_key_L11] at hf
    refine g_iload C 3 dX8_key_11 rfl ?_
    refine g_bipush C dX8_key_13 (v := 24) (by decide) ?_
    refine g_icmp_ge (tgt := 44) C dX8_key_15 (by decide) (fun c3 => ?_) (fun c3 => ?_)
    · rw [if_pos c3] at hf
      refine g_iload_n C 1 dX8_key_44 rfl ?_
      exact g_iretR C hR hf dX8_key_45
    · rw [if_neg c3] at hf
      refine g_lload_n C 0 dX8_key_18 rfl ?_
      refine g_iload C 3 dX8_key_19 rfl ?_
      obtain ⟨r5, h4, hf⟩ := o_bind hf
      refine g_callS C (c_X8_inKey l E h4) k_X8_29 ⟨rfl, rfl, Nat.le_of_ble_eq_true rfl, Nat.le_of_ble_eq_true rfl⟩ rfl (Nat.le_of_ble_eq_true rfl) dX8_key_21 _ rfl ?_
      refine g_istore C dX8_key_24 (by decide) [(5, .int r5), (0, .long v0), (2, .int v2), (3, .int v3), (4, .int v4)] rfl ?_
      refine g_iload C 0 dX8_key_26 rfl ?_
      refine g_iload_n C 3 dX8_key_28 rfl ?_
      refine g_icmp_le (tgt := 38) C dX8_key_29 (by decide) (fun c6 => ?_) (fun c6 => ?_)
      · rw [if_pos c6] at hf
        obtain ⟨x7, hx7, hf⟩ := o_let hf
        refine g_iinc C 4 dX8_key_38 rfl hx7 (by decide) [(4, .int x7), (5, .int r5), (0, .long v0), (2, .int v2), (3, .int v3)] rfl ?_
        refine g_goto (tgt := 11) C dX8_key_41 (by decide) ?_
        exact g_lv [(0, .long v0), (2, .int v2), (3, .int v3), (4, .int x7)] [2, 3, 4, 0] rfl (ih v0 v2 v3 x7 hf)
      · rw [if_neg c6] at hf
        refine g_iload C 0 dX8_key_32 rfl ?_
        refine g_istore_n C dX8_key_34 (by decide) [(3, .int r5), (5, .int r5), (0, .long v0), (2, .int v2), (4, .int v4)] rfl ?_
        refine g_iload C 4 dX8_key_35 rfl ?_
        refine g_istore_n C dX8_key_37 (by decide) [(2, .int v4), (3, .int r5), (5, .int r5), (0, .long v0), (4, .int v4)] rfl ?_
        obtain ⟨x8, hx8, hf⟩ := o_let hf
        refine g_iinc C 4 dX8_key_38 rfl hx8 (by decide) [(4, .int x8), (2, .int v4), (3, .int r5), (5, .int r5), (0, .long v0)] rfl ?_
        refine g_goto (tgt := 11) C dX8_key_41 (by decide) ?_
        exact g_lv [(0, .long v0), (2, .int v4), (3, .int r5), (4, .int x8)] [4, 1, 2, 0] rfl (ih v0 v4 r5 x8 hf)
set_option maxRecDepth 100000 in
set_option maxHeartbeats 4000000 in
theorem c_X8_key (l : Launch) (E : EV) {σ : ST} {p0 : Int64} {rr : Int32} (hf : f_X8_key p0 = some rr) : CT l E yX8_key cX8_key 6 (some .int) rm_X8_key [.long p0] σ (some (.int rr)) σ := by
  refine CT.of RX8 rfl (by decide) (Nat.le_of_ble_eq_true rfl) rfl rfl (fun Γ C hR => ?_)
  show GW Γ 6 E σ 0 [(0, .long p0)] []
  rw [f_X8_key] at hf
  refine g_iconst C dX8_key_0 (v := 0) (by decide) ?_
  refine g_istore_n C dX8_key_1 (by decide) [(2, .int 0), (0, .long p0)] rfl ?_
  refine g_lload_n C 1 dX8_key_2 rfl ?_
  refine g_iconst C dX8_key_3 (v := 0) (by decide) ?_
  obtain ⟨r2, h1, hf⟩ := o_bind hf
  refine g_callS C (c_X8_inKey l E h1) k_X8_29 ⟨rfl, rfl, Nat.le_of_ble_eq_true rfl, Nat.le_of_ble_eq_true rfl⟩ rfl (Nat.le_of_ble_eq_true rfl) dX8_key_4 _ rfl ?_
  refine g_istore_n C dX8_key_7 (by decide) [(3, .int r2), (2, .int 0), (0, .long p0)] rfl ?_
  refine g_iconst C dX8_key_8 (v := 1) (by decide) ?_
  refine g_istore C dX8_key_9 (by decide) [(4, .int 1), (3, .int r2), (2, .int 0), (0, .long p0)] rfl ?_
  exact g_lv [(0, .long p0), (2, .int 0), (3, .int r2), (4, .int 1)] [3, 2, 1, 0] rfl (t_X8_key_L11 C hR fuel p0 0 r2 1 hf)
abbrev rm_X8_unlike : Room := { frames := 1, cells := 0, slots := 0, locals := 22 }
set_option maxRecDepth 100000 in
set_option maxHeartbeats 4000000 in
theorem t_X8_unlike_L6 {Γ : CX} {l : Launch} {E : EV} {σ : ST} {rr : Int32} (C : FX Γ l cX8_unlike 6 RX8 rm_X8_unlike E) (hR : RT Γ (some .int) E (some (.int rr)) σ) : ∀ (n : Nat) (v0 : Int64) (v2 : Int64) (v4 : Int32) (v5 : Int32), f_X8_unlike_L6 n v0 v2 v4 v5 = some rr → GW Γ 6 E σ 6 [(0, .long v0), (2, .long v2), (4, .int v4), (5, .int v5)] [] := by
  intro n
  induction n with
  | zero => intro v0 v2 v4 v5 hf; exact nomatch hf
  | succ n ih =>
    intro v0 v2 v4 v5 hf
    rw [f_X8_unlike_L6] at hf
    refine g_iload C 3 dX8_unlike_6 rfl ?_
    refine g_bipush C dX8_unlike_8 (v := 8) (by decide) ?_
    refine g_icmp_ge (tgt := 37) C dX8_unlike_10 (by decide) (fun c1 => ?_) (fun c1 => ?_)
    · rw [if_pos c1] at hf
      refine g_iload C 2 dX8_unlike_37 rfl ?_
      exact g_iretR C hR hf dX8_unlike_39
    · rw [if_neg c1] at hf
      refine g_lload_n C 0 dX8_unlike_13 rfl ?_
      refine g_iload C 3 dX8_unlike_14 rfl ?_
      obtain ⟨r3, h2, hf⟩ := o_bind hf
      refine g_callS C (c_X8_note l E h2) k_X8_13 ⟨rfl, rfl, Nat.le_of_ble_eq_true rfl, Nat.le_of_ble_eq_true rfl⟩ rfl (Nat.le_of_ble_eq_true rfl) dX8_unlike_16 _ rfl ?_
      refine g_lload_n C 1 dX8_unlike_19 rfl ?_
      refine g_iload C 3 dX8_unlike_20 rfl ?_
      obtain ⟨r5, h4, hf⟩ := o_bind hf
      refine g_callS C (c_X8_note l E h4) k_X8_13 ⟨rfl, rfl, Nat.le_of_ble_eq_true rfl, Nat.le_of_ble_eq_true rfl⟩ rfl (Nat.le_of_ble_eq_true rfl) dX8_unlike_22 _ rfl ?_
      obtain ⟨x6, ex6, hf⟩ := o_let hf
      have Kx6 : GW Γ 6 E σ 31 [(0, .long v0), (2, .long v2), (4, .int x6), (5, .int v5)] [] := by
        obtain ⟨x8, hx8, hf⟩ := o_let hf
        refine g_iinc C 3 dX8_unlike_31 rfl hx8 (by decide) [(5, .int x8), (0, .long v0), (2, .long v2), (4, .int x6)] rfl ?_
        refine g_goto (tgt := 6) C dX8_unlike_34 (by decide) ?_
        exact g_lv [(0, .long v0), (2, .long v2), (4, .int x6), (5, .int x8)] [1, 2, 3, 0] rfl (ih v0 v2 x6 x8 hf)
      refine g_icmp_eq (tgt := 31) C dX8_unlike_25 (by decide) (fun c7 => ?_) (fun c7 => ?_)
      · rw [if_pos c7] at ex6
        rw [← ex6] at Kx6
        exact g_lv [(0, .long v0), (2, .long v2), (4, .int v4), (5, .int v5)] [0, 1, 2, 3] rfl Kx6
      · rw [if_neg c7] at ex6
        refine g_iinc C 2 dX8_unlike_28 rfl rfl (by decide) [(4, .int (v4 + 1)), (0, .long v0), (2, .long v2), (5, .int v5)] rfl ?_
        rw [← ex6] at Kx6
        exact g_lv [(0, .long v0), (2, .long v2), (4, .int (v4 + 1)), (5, .int v5)] [1, 2, 0, 3] rfl Kx6
set_option maxRecDepth 100000 in
set_option maxHeartbeats 4000000 in
theorem c_X8_unlike (l : Launch) (E : EV) {σ : ST} {p0 : Int64} {p1 : Int64} {rr : Int32} (hf : f_X8_unlike p0 p1 = some rr) : CT l E yX8_unlike cX8_unlike 6 (some .int) rm_X8_unlike [.long p0, .long p1] σ (some (.int rr)) σ := by
  refine CT.of RX8 rfl (by decide) (Nat.le_of_ble_eq_true rfl) rfl rfl (fun Γ C hR => ?_)
  show GW Γ 6 E σ 0 [(0, .long p0), (2, .long p1)] []
  rw [f_X8_unlike] at hf
  refine g_iconst C dX8_unlike_0 (v := 0) (by decide) ?_
  refine g_istore C dX8_unlike_1 (by decide) [(4, .int 0), (0, .long p0), (2, .long p1)] rfl ?_
  refine g_iconst C dX8_unlike_3 (v := 0) (by decide) ?_
  refine g_istore C dX8_unlike_4 (by decide) [(5, .int 0), (4, .int 0), (0, .long p0), (2, .long p1)] rfl ?_
  exact g_lv [(0, .long p0), (2, .long p1), (4, .int 0), (5, .int 0)] [2, 3, 1, 0] rfl (t_X8_unlike_L6 C hR fuel p0 p1 0 0 hf)
abbrev rm_X7_kind : Room := { frames := 0, cells := 0, slots := 0, locals := 0 }
set_option maxRecDepth 100000 in
set_option maxHeartbeats 4000000 in
theorem c_X7_kind (l : Launch) (E : EV) (a0 : Nat) {σ : ST} {rr : Int32} (hf : f_X7_kind = some rr) : CT l E yX7_kind cX7_kind 1 (some .int) rm_X7_kind [.ref a0] σ (some (.int rr)) σ := by
  refine CT.of RX7 rfl (by decide) (Nat.le_of_ble_eq_true rfl) rfl rfl (fun Γ C hR => ?_)
  show GW Γ 1 E σ 0 [(0, .ref a0)] []
  rw [f_X7_kind] at hf
  refine g_iconst C dX7_kind_0 (v := 0) (by decide) ?_
  exact g_iretR C hR hf dX7_kind_1
abbrev rm_X0_kind : Room := { frames := 0, cells := 0, slots := 0, locals := 0 }
set_option maxRecDepth 100000 in
set_option maxHeartbeats 4000000 in
theorem c_X0_kind (l : Launch) (E : EV) (a0 : Nat) {σ : ST} {rr : Int32} (hf : f_X0_kind = some rr) : CT l E yX0_kind cX0_kind 1 (some .int) rm_X0_kind [.ref a0] σ (some (.int rr)) σ := by
  refine CT.of RX0 rfl (by decide) (Nat.le_of_ble_eq_true rfl) rfl rfl (fun Γ C hR => ?_)
  show GW Γ 1 E σ 0 [(0, .ref a0)] []
  rw [f_X0_kind] at hf
  refine g_iconst C dX0_kind_0 (v := 2) (by decide) ?_
  exact g_iretR C hR hf dX0_kind_1
abbrev rm_X2_kind : Room := { frames := 0, cells := 0, slots := 0, locals := 0 }
set_option maxRecDepth 100000 in
set_option maxHeartbeats 4000000 in
theorem c_X2_kind (l : Launch) (E : EV) (a0 : Nat) {σ : ST} {rr : Int32} (hf : f_X2_kind = some rr) : CT l E yX2_kind cX2_kind 1 (some .int) rm_X2_kind [.ref a0] σ (some (.int rr)) σ := by
  refine CT.of RX2 rfl (by decide) (Nat.le_of_ble_eq_true rfl) rfl rfl (fun Γ C hR => ?_)
  show GW Γ 1 E σ 0 [(0, .ref a0)] []
  rw [f_X2_kind] at hf
  refine g_iconst C dX2_kind_0 (v := 1) (by decide) ?_
  exact g_iretR C hR hf dX2_kind_1
abbrev rm_X5_kind : Room := { frames := 0, cells := 0, slots := 0, locals := 0 }
set_option maxRecDepth 100000 in
set_option maxHeartbeats 4000000 in
theorem c_X5_kind (l : Launch) (E : EV) (a0 : Nat) {σ : ST} {rr : Int32} (hf : f_X5_kind = some rr) : CT l E yX5_kind cX5_kind 1 (some .int) rm_X5_kind [.ref a0] σ (some (.int rr)) σ := by
  refine CT.of RX5 rfl (by decide) (Nat.le_of_ble_eq_true rfl) rfl rfl (fun Γ C hR => ?_)
  show GW Γ 1 E σ 0 [(0, .ref a0)] []
  rw [f_X5_kind] at hf
  refine g_iconst C dX5_kind_0 (v := 4) (by decide) ?_
  exact g_iretR C hR hf dX5_kind_1
abbrev rm_X6_kind : Room := { frames := 0, cells := 0, slots := 0, locals := 0 }
set_option maxRecDepth 100000 in
set_option maxHeartbeats 4000000 in
theorem c_X6_kind (l : Launch) (E : EV) (a0 : Nat) {σ : ST} {rr : Int32} (hf : f_X6_kind = some rr) : CT l E yX6_kind cX6_kind 1 (some .int) rm_X6_kind [.ref a0] σ (some (.int rr)) σ := by
  refine CT.of RX6 rfl (by decide) (Nat.le_of_ble_eq_true rfl) rfl rfl (fun Γ C hR => ?_)
  show GW Γ 1 E σ 0 [(0, .ref a0)] []
  rw [f_X6_kind] at hf
  refine g_iconst C dX6_kind_0 (v := 3) (by decide) ?_
  exact g_iretR C hR hf dX6_kind_1
abbrev rm_X7_heard : Room := { frames := 1, cells := 0, slots := 0, locals := 22 }
set_option maxRecDepth 100000 in
set_option maxHeartbeats 4000000 in
theorem c_X7_heard (l : Launch) (E : EV) (a0 : Nat) {σ : ST} {p0 : Int64} {p1 : Int32} {p2 : Int32} {rr : Int32} (hf : f_X7_heard p0 p1 p2 = some rr) : CT l E yX7_heard cX7_heard 5 (some .int) rm_X7_heard [.ref a0, .long p0, .int p1, .int p2] σ (some (.int rr)) σ := by
  refine CT.of RX7 rfl (by decide) (Nat.le_of_ble_eq_true rfl) rfl rfl (fun Γ C hR => ?_)
  show GW Γ 5 E σ 0 [(0, .ref a0), (1, .long p0), (3, .int p1), (4, .int p2)] []
  rw [f_X7_heard] at hf
  refine g_lload_n C 1 dX7_heard_0 rfl ?_
  refine g_iload_n C 2 dX7_heard_1 rfl ?_
  obtain ⟨r2, h1, hf⟩ := o_bind hf
  refine g_callS C (c_X8_note l E h1) k_X7_18 ⟨rfl, rfl, Nat.le_of_ble_eq_true rfl, Nat.le_of_ble_eq_true rfl⟩ rfl (Nat.le_of_ble_eq_true rfl) dX7_heard_2 _ rfl ?_
  refine g_iload C 3 dX7_heard_5 rfl ?_
  refine g_iadd C dX7_heard_7 ?_
  refine g_bipush C dX7_heard_8 (v := 12) (by decide) ?_
  refine g_irem C dX7_heard_10 (by decide) ?_
  exact g_iretR C hR hf dX7_heard_11
abbrev rm_X2_heard : Room := { frames := 1, cells := 0, slots := 0, locals := 22 }
set_option maxRecDepth 100000 in
set_option maxHeartbeats 4000000 in
theorem t_X2_heard_B41 {Γ : CX} {l : Launch} {E : EV} {a0 : Nat} {σ : ST} {rr : Int32} (C : FX Γ l cX2_heard 8 RX2 rm_X2_heard E) (hR : RT Γ (some .int) E (some (.int rr)) σ) (v5 : Int32) (s0 : Int32) (hf : f_X2_heard_B41 v5 s0 = some rr) : GW Γ 8 E σ 41 [(5, .int v5)] [.int s0] := by
  rw [f_X2_heard_B41] at hf
  refine g_istore C dX2_heard_41 (by decide) [(7, .int s0), (5, .int v5)] rfl ?_
  refine g_iload C 0 dX2_heard_43 rfl ?_
  refine g_if_eq (y := 0) (tgt := 61) C dX2_heard_45 (by decide) (fun c9 => ?_) (fun c9 => ?_)
  · rw [if_pos c9] at hf
    refine g_iload C 1 dX2_heard_61 rfl ?_
    exact g_iretR C hR hf dX2_heard_63
  · rw [if_neg c9] at hf
    refine g_iload C 1 dX2_heard_48 rfl ?_
    refine g_bipush C dX2_heard_50 (v := 12) (by decide) ?_
    refine g_iadd C dX2_heard_52 ?_
    refine g_iconst C dX2_heard_53 (v := 1) (by decide) ?_
    refine g_isub C dX2_heard_54 ?_
    refine g_bipush C dX2_heard_55 (v := 12) (by decide) ?_
    refine g_irem C dX2_heard_57 (by decide) ?_
    refine g_goto (tgt := 63) C dX2_heard_58 (by decide) ?_
    exact g_iretR C hR hf dX2_heard_63
set_option maxRecDepth 100000 in
set_option maxHeartbeats 4000000 in
theorem c_X2_heard (l : Launch) (E : EV) (a0 : Nat) {σ : ST} {p0 : Int64} {p1 : Int32} {p2 : Int32} {rr : Int32} (hf : f_X2_heard p0 p1 p2 = some rr) : CT l E yX2_heard cX2_heard 8 (some .int) rm_X2_heard [.ref a0, .long p0, .int p1, .int p2] σ (some (.int rr)) σ := by
  refine CT.of RX2 rfl (by decide) (Nat.le_of_ble_eq_true rfl) rfl rfl (fun Γ C hR => ?_)
  show GW Γ 8 E σ 0 [(0, .ref a0), (1, .long p0), (3, .int p1), (4, .int p2)] []
  rw [f_X2_heard] at hf
  refine g_lload_n C 1 dX2_heard_0 rfl ?_
  refine g_iload_n C 2 dX2_heard_1 rfl ?_
  obtain ⟨r2, h1, hf⟩ := o_bind hf
  refine g_callS C (c_X8_note l E h1) k_X2_9 ⟨rfl, rfl, Nat.le_of_ble_eq_true rfl, Nat.le_of_ble_eq_true rfl⟩ rfl (Nat.le_of_ble_eq_true rfl) dX2_heard_2 _ rfl ?_
  refine g_istore C dX2_heard_5 (by decide) [(5, .int r2), (0, .ref a0), (1, .long p0), (3, .int p1), (4, .int p2)] rfl ?_
  refine g_iload C 0 dX2_heard_7 rfl ?_
  refine g_iload C 4 dX2_heard_9 rfl ?_
  obtain ⟨r4, h3, hf⟩ := o_bind hf
  refine g_callS C (c_X8_above l E h3) k_X2_15 ⟨rfl, rfl, Nat.le_of_ble_eq_true rfl, Nat.le_of_ble_eq_true rfl⟩ rfl (Nat.le_of_ble_eq_true rfl) dX2_heard_11 _ rfl ?_
  refine g_istore C dX2_heard_14 (by decide) [(6, .int r4), (5, .int r2), (0, .ref a0), (1, .long p0), (3, .int p1), (4, .int p2)] rfl ?_
  refine g_iload C 0 dX2_heard_16 rfl ?_
  refine g_iconst C dX2_heard_18 (v := 4) (by decide) ?_
  obtain ⟨x5, ex5, hf⟩ := o_let hf
  have Kx5 : GW Γ 8 E σ 41 [(5, .int r2)] [.int x5] := by
    exact t_X2_heard_B41 (a0 := a0) C hR r2 x5 hf
  refine g_icmp_eq (tgt := 36) C dX2_heard_19 (by decide) (fun c6 => ?_) (fun c6 => ?_)
  · rw [if_pos c6] at ex5
    refine g_iconst C dX2_heard_36 (v := 1) (by decide) ?_
    refine g_goto (tgt := 41) C dX2_heard_37 (by decide) ?_
    rw [← ex5] at Kx5
    exact g_lv [(5, .int r2)] [1] rfl Kx5
  · rw [if_neg c6] at ex5
    refine g_iload C 0 dX2_heard_22 rfl ?_
    refine g_bipush C dX2_heard_24 (v := 9) (by decide) ?_
    refine g_icmp_eq (tgt := 36) C dX2_heard_26 (by decide) (fun c7 => ?_) (fun c7 => ?_)
    · rw [if_pos c7] at ex5
      refine g_iconst C dX2_heard_36 (v := 1) (by decide) ?_
      refine g_goto (tgt := 41) C dX2_heard_37 (by decide) ?_
      rw [← ex5] at Kx5
      exact g_lv [(5, .int r2)] [1] rfl Kx5
    · rw [if_neg c7] at ex5
      refine g_iload C 0 dX2_heard_29 rfl ?_
      refine g_bipush C dX2_heard_31 (v := 11) (by decide) ?_
      refine g_icmp_ne (tgt := 40) C dX2_heard_33 (by decide) (fun c8 => ?_) (fun c8 => ?_)
      · rw [if_neg c8] at ex5
        refine g_iconst C dX2_heard_40 (v := 0) (by decide) ?_
        rw [← ex5] at Kx5
        exact g_lv [(5, .int r2)] [1] rfl Kx5
      · rw [if_pos c8] at ex5
        refine g_iconst C dX2_heard_36 (v := 1) (by decide) ?_
        refine g_goto (tgt := 41) C dX2_heard_37 (by decide) ?_
        rw [← ex5] at Kx5
        exact g_lv [(5, .int r2)] [1] rfl Kx5
abbrev rm_X0_heard : Room := { frames := 1, cells := 0, slots := 0, locals := 22 }
set_option maxRecDepth 100000 in
set_option maxHeartbeats 4000000 in
theorem c_X0_heard (l : Launch) (E : EV) (a0 : Nat) {σ : ST} {p0 : Int64} {p1 : Int32} {p2 : Int32} {rr : Int32} (hf : f_X0_heard p0 p1 p2 = some rr) : CT l E yX0_heard cX0_heard 5 (some .int) rm_X0_heard [.ref a0, .long p0, .int p1, .int p2] σ (some (.int rr)) σ := by
  refine CT.of RX0 rfl (by decide) (Nat.le_of_ble_eq_true rfl) rfl rfl (fun Γ C hR => ?_)
  show GW Γ 5 E σ 0 [(0, .ref a0), (1, .long p0), (3, .int p1), (4, .int p2)] []
  rw [f_X0_heard] at hf
  refine g_iload C 3 dX0_heard_0 rfl ?_
  refine g_lload_n C 1 dX0_heard_2 rfl ?_
  refine g_iload_n C 2 dX0_heard_3 rfl ?_
  obtain ⟨r2, h1, hf⟩ := o_bind hf
  refine g_callS C (c_X8_note l E h1) k_X0_9 ⟨rfl, rfl, Nat.le_of_ble_eq_true rfl, Nat.le_of_ble_eq_true rfl⟩ rfl (Nat.le_of_ble_eq_true rfl) dX0_heard_4 _ rfl ?_
  obtain ⟨r4, h3, hf⟩ := o_bind hf
  refine g_callS C (c_X8_above l E h3) k_X0_15 ⟨rfl, rfl, Nat.le_of_ble_eq_true rfl, Nat.le_of_ble_eq_true rfl⟩ rfl (Nat.le_of_ble_eq_true rfl) dX0_heard_7 _ rfl ?_
  exact g_iretR C hR hf dX0_heard_10
abbrev rm_X6_heard : Room := { frames := 1, cells := 0, slots := 0, locals := 22 }
set_option maxRecDepth 100000 in
set_option maxHeartbeats 4000000 in
theorem c_X6_heard (l : Launch) (E : EV) (a0 : Nat) {σ : ST} {p0 : Int64} {p1 : Int32} {p2 : Int32} {rr : Int32} (hf : f_X6_heard p0 p1 p2 = some rr) : CT l E yX6_heard cX6_heard 5 (some .int) rm_X6_heard [.ref a0, .long p0, .int p1, .int p2] σ (some (.int rr)) σ := by
  refine CT.of RX6 rfl (by decide) (Nat.le_of_ble_eq_true rfl) rfl rfl (fun Γ C hR => ?_)
  show GW Γ 5 E σ 0 [(0, .ref a0), (1, .long p0), (3, .int p1), (4, .int p2)] []
  rw [f_X6_heard] at hf
  refine g_lload_n C 1 dX6_heard_0 rfl ?_
  refine g_iconst C dX6_heard_1 (v := 0) (by decide) ?_
  obtain ⟨r2, h1, hf⟩ := o_bind hf
  refine g_callS C (c_X8_note l E h1) k_X6_9 ⟨rfl, rfl, Nat.le_of_ble_eq_true rfl, Nat.le_of_ble_eq_true rfl⟩ rfl (Nat.le_of_ble_eq_true rfl) dX6_heard_2 _ rfl ?_
  exact g_iretR C hR hf dX6_heard_5
abbrev rm_X5_heard : Room := { frames := 2, cells := 0, slots := 0, locals := 49 }
set_option maxRecDepth 100000 in
set_option maxHeartbeats 4000000 in
theorem t_X5_heard_B26 {Γ : CX} {l : Launch} {E : EV} {a0 : Nat} {σ : ST} {rr : Int32} (C : FX Γ l cX5_heard 7 RX5 rm_X5_heard E) (hR : RT Γ (some .int) E (some (.int rr)) σ) (ha0 : a0 ∈ σ.2.2.2.1) (hk0 : σ.2.2.2.2.1 a0 = 5) (v4 : Int32) (v5 : Int32) (s0 : Int32) (hf : f_X5_heard_B26 v4 v5 s0 = some rr) : GW Γ 7 E σ 26 [(4, .int v4), (5, .int v5)] [.int s0] := by
  rw [f_X5_heard_B26] at hf
  refine g_istore C dX5_heard_26 (by decide) [(6, .int s0), (4, .int v4), (5, .int v5)] rfl ?_
  refine g_iload C 0 dX5_heard_28 rfl ?_
  refine g_if_eq (y := 0) (tgt := 54) C dX5_heard_30 (by decide) (fun c7 => ?_) (fun c7 => ?_)
  · rw [if_pos c7] at hf
    refine g_iload C 2 dX5_heard_54 rfl ?_
    exact g_iretR C hR hf dX5_heard_56
  · rw [if_neg c7] at hf
    refine g_iload C 2 dX5_heard_33 rfl ?_
    refine g_iload C 1 dX5_heard_35 rfl ?_
    obtain ⟨r9, h8, hf⟩ := o_bind hf
    refine g_callS C (c_X8_above l E h8) k_X5_19 ⟨rfl, rfl, Nat.le_of_ble_eq_true rfl, Nat.le_of_ble_eq_true rfl⟩ rfl (Nat.le_of_ble_eq_true rfl) dX5_heard_37 _ rfl ?_
    refine g_iconst C dX5_heard_40 (v := 3) (by decide) ?_
    refine g_icmp_ne (tgt := 54) C dX5_heard_41 (by decide) (fun c10 => ?_) (fun c10 => ?_)
    · rw [if_neg c10] at hf
      refine g_iload C 2 dX5_heard_54 rfl ?_
      exact g_iretR C hR hf dX5_heard_56
    · rw [if_pos c10] at hf
      refine g_iload C 1 dX5_heard_44 rfl ?_
      refine g_iconst C dX5_heard_46 (v := 4) (by decide) ?_
      refine g_iadd C dX5_heard_47 ?_
      refine g_bipush C dX5_heard_48 (v := 12) (by decide) ?_
      refine g_irem C dX5_heard_50 (by decide) ?_
      refine g_goto (tgt := 56) C dX5_heard_51 (by decide) ?_
      exact g_iretR C hR hf dX5_heard_56
set_option maxRecDepth 100000 in
set_option maxHeartbeats 4000000 in
theorem c_X5_heard (l : Launch) (E : EV) (a0 : Nat) {σ : ST} (ha0 : a0 ∈ σ.2.2.2.1) (hk0 : σ.2.2.2.2.1 a0 = 5) {p0 : Int64} {p1 : Int32} {p2 : Int32} {rr : Int32} (hf : f_X5_heard p0 p1 p2 = some rr) : CT l E yX5_heard cX5_heard 7 (some .int) rm_X5_heard [.ref a0, .long p0, .int p1, .int p2] σ (some (.int rr)) σ := by
  refine CT.of RX5 rfl (by decide) (Nat.le_of_ble_eq_true rfl) rfl rfl (fun Γ C hR => ?_)
  show GW Γ 7 E σ 0 [(0, .ref a0), (1, .long p0), (3, .int p1), (4, .int p2)] []
  rw [f_X5_heard] at hf
  refine g_aload_n C 0 dX5_heard_0 rfl ?_
  refine g_lload_n C 1 dX5_heard_1 rfl ?_
  refine g_iload_n C 2 dX5_heard_2 rfl ?_
  refine g_iload C 3 dX5_heard_3 rfl ?_
  obtain ⟨r2, h1, hf⟩ := o_bind hf
  refine g_callSU C (c_X2_heard l E a0 h1) cls_5 ha0 hk0 ksu_X5_9 ⟨rfl, rfl, Nat.le_of_ble_eq_true rfl, Nat.le_of_ble_eq_true rfl⟩ rfl (Nat.le_of_ble_eq_true rfl) dX5_heard_5 _ rfl ?_
  refine g_istore C dX5_heard_8 (by decide) [(5, .int r2), (0, .ref a0), (1, .long p0), (3, .int p1), (4, .int p2)] rfl ?_
  refine g_lload_n C 2 dX5_heard_10 rfl ?_
  refine g_iload_n C 3 dX5_heard_11 rfl ?_
  refine g_iconst C dX5_heard_12 (v := 1) (by decide) ?_
  refine g_iadd C dX5_heard_13 ?_
  obtain ⟨r4, h3, hf⟩ := o_bind hf
  refine g_callS C (c_X8_note l E h3) k_X5_13 ⟨rfl, rfl, Nat.le_of_ble_eq_true rfl, Nat.le_of_ble_eq_true rfl⟩ rfl (Nat.le_of_ble_eq_true rfl) dX5_heard_14 _ rfl ?_
  refine g_iconst C dX5_heard_17 (v := (-1)) (by decide) ?_
  obtain ⟨x5, ex5, hf⟩ := o_let hf
  have Kx5 : GW Γ 7 E σ 26 [(4, .int p2), (5, .int r2)] [.int x5] := by
    exact t_X5_heard_B26 (a0 := a0) C hR ha0 hk0 p2 r2 x5 hf
  refine g_icmp_ne (tgt := 25) C dX5_heard_18 (by decide) (fun c6 => ?_) (fun c6 => ?_)
  · rw [if_neg c6] at ex5
    refine g_iconst C dX5_heard_25 (v := 0) (by decide) ?_
    rw [← ex5] at Kx5
    exact g_lv [(4, .int p2), (5, .int r2)] [4, 0] rfl Kx5
  · rw [if_pos c6] at ex5
    refine g_iconst C dX5_heard_21 (v := 1) (by decide) ?_
    refine g_goto (tgt := 26) C dX5_heard_22 (by decide) ?_
    rw [← ex5] at Kx5
    exact g_lv [(4, .int p2), (5, .int r2)] [4, 0] rfl Kx5
abbrev rm_X7_open : Room := { frames := 0, cells := 0, slots := 0, locals := 0 }
set_option maxRecDepth 100000 in
set_option maxHeartbeats 4000000 in
theorem c_X7_open (l : Launch) (E : EV) (a0 : Nat) {σ : ST} {p0 : Int64} {p1 : Int32} {rr : Int32} (hf : f_X7_open p0 p1 = some rr) : CT l E yX7_open cX7_open 4 (some .boolean) rm_X7_open [.ref a0, .long p0, .int p1] σ (some (.int rr)) σ := by
  refine CT.of RX7 rfl (by decide) (Nat.le_of_ble_eq_true rfl) rfl rfl (fun Γ C hR => ?_)
  show GW Γ 4 E σ 0 [(0, .ref a0), (1, .long p0), (3, .int p1)] []
  rw [f_X7_open] at hf
  refine g_iconst C dX7_open_0 (v := 1) (by decide) ?_
  exact g_zretR C hR hf (by decide) dX7_open_1
abbrev rm_X0_open : Room := { frames := 2, cells := 0, slots := 0, locals := 45 }
set_option maxRecDepth 100000 in
set_option maxHeartbeats 4000000 in
theorem c_X0_open (l : Launch) (E : EV) (a0 : Nat) {σ : ST} {p0 : Int64} {p1 : Int32} {rr : Int32} (hf : f_X0_open p0 p1 = some rr) : CT l E yX0_open cX0_open 4 (some .boolean) rm_X0_open [.ref a0, .long p0, .int p1] σ (some (.int rr)) σ := by
  refine CT.of RX0 rfl (by decide) (Nat.le_of_ble_eq_true rfl) rfl rfl (fun Γ C hR => ?_)
  show GW Γ 4 E σ 0 [(0, .ref a0), (1, .long p0), (3, .int p1)] []
  rw [f_X0_open] at hf
  refine g_iload_n C 2 dX0_open_0 rfl ?_
  refine g_if_eq (y := 0) (tgt := 11) C dX0_open_1 (by decide) (fun c1 => ?_) (fun c1 => ?_)
  · rw [if_pos c1] at hf
    refine g_iconst C dX0_open_11 (v := 1) (by decide) ?_
    refine g_goto (tgt := 16) C dX0_open_12 (by decide) ?_
    exact g_zretR C hR hf (by decide) dX0_open_16
  · rw [if_neg c1] at hf
    refine g_lload_n C 1 dX0_open_4 rfl ?_
    obtain ⟨r3, h2, hf⟩ := o_bind hf
    refine g_callS C (c_X8_tritones l E h2) k_X0_19 ⟨rfl, rfl, Nat.le_of_ble_eq_true rfl, Nat.le_of_ble_eq_true rfl⟩ rfl (Nat.le_of_ble_eq_true rfl) dX0_open_5 _ rfl ?_
    refine g_if_ne (y := 0) (tgt := 15) C dX0_open_8 (by decide) (fun c4 => ?_) (fun c4 => ?_)
    · rw [if_neg c4] at hf
      refine g_iconst C dX0_open_15 (v := 0) (by decide) ?_
      exact g_zretR C hR hf (by decide) dX0_open_16
    · rw [if_pos c4] at hf
      refine g_iconst C dX0_open_11 (v := 1) (by decide) ?_
      refine g_goto (tgt := 16) C dX0_open_12 (by decide) ?_
      exact g_zretR C hR hf (by decide) dX0_open_16
abbrev rm_X7_endsAt : Room := { frames := 0, cells := 0, slots := 0, locals := 0 }
set_option maxRecDepth 100000 in
set_option maxHeartbeats 4000000 in
theorem c_X7_endsAt (l : Launch) (E : EV) (a0 : Nat) {σ : ST} (hp0 : pv σ a0) {p0 : Int32} {rr : Int32} (hf : f_X7_endsAt a0 σ p0 = some rr) : CT l E yX7_endsAt cX7_endsAt 2 (some .boolean) rm_X7_endsAt [.ref a0, .int p0] σ (some (.int rr)) σ := by
  refine CT.of RX7 rfl (by decide) (Nat.le_of_ble_eq_true rfl) rfl rfl (fun Γ C hR => ?_)
  show GW Γ 2 E σ 0 [(0, .ref a0), (1, .int p0)] []
  rw [f_X7_endsAt] at hf
  refine g_iload_n C 1 dX7_endsAt_0 rfl ?_
  refine g_aload_n C 0 dX7_endsAt_1 rfl ?_
  refine g_one C sf_X7_9 dX7_endsAt_2 hp0 ?_
  refine g_icmp_eq (tgt := 16) C dX7_endsAt_5 (by decide) (fun c1 => ?_) (fun c1 => ?_)
  · rw [if_pos c1] at hf
    refine g_iconst C dX7_endsAt_16 (v := 1) (by decide) ?_
    refine g_goto (tgt := 21) C dX7_endsAt_17 (by decide) ?_
    exact g_zretR C hR hf (by decide) dX7_endsAt_21
  · rw [if_neg c1] at hf
    refine g_iload_n C 1 dX7_endsAt_8 rfl ?_
    refine g_aload_n C 0 dX7_endsAt_9 rfl ?_
    refine g_other C sf_X7_15 dX7_endsAt_10 hp0 ?_
    refine g_icmp_ne (tgt := 20) C dX7_endsAt_13 (by decide) (fun c2 => ?_) (fun c2 => ?_)
    · rw [if_neg c2] at hf
      refine g_iconst C dX7_endsAt_20 (v := 0) (by decide) ?_
      exact g_zretR C hR hf (by decide) dX7_endsAt_21
    · rw [if_pos c2] at hf
      refine g_iconst C dX7_endsAt_16 (v := 1) (by decide) ?_
      refine g_goto (tgt := 21) C dX7_endsAt_17 (by decide) ?_
      exact g_zretR C hR hf (by decide) dX7_endsAt_21
abbrev rm_X7_across : Room := { frames := 0, cells := 0, slots := 0, locals := 0 }
set_option maxRecDepth 100000 in
set_option maxHeartbeats 4000000 in
theorem c_X7_across (l : Launch) (E : EV) (a0 : Nat) {σ : ST} (hp0 : pv σ a0) {p0 : Int32} {rr : Int32} (hf : f_X7_across a0 σ p0 = some rr) : CT l E yX7_across cX7_across 2 (some .int) rm_X7_across [.ref a0, .int p0] σ (some (.int rr)) σ := by
  refine CT.of RX7 rfl (by decide) (Nat.le_of_ble_eq_true rfl) rfl rfl (fun Γ C hR => ?_)
  show GW Γ 2 E σ 0 [(0, .ref a0), (1, .int p0)] []
  rw [f_X7_across] at hf
  refine g_iload_n C 1 dX7_across_0 rfl ?_
  refine g_aload_n C 0 dX7_across_1 rfl ?_
  refine g_one C sf_X7_9 dX7_across_2 hp0 ?_
  refine g_icmp_ne (tgt := 15) C dX7_across_5 (by decide) (fun c1 => ?_) (fun c1 => ?_)
  · rw [if_neg c1] at hf
    refine g_aload_n C 0 dX7_across_15 rfl ?_
    refine g_one C sf_X7_9 dX7_across_16 hp0 ?_
    exact g_iretR C hR hf dX7_across_19
  · rw [if_pos c1] at hf
    refine g_aload_n C 0 dX7_across_8 rfl ?_
    refine g_other C sf_X7_15 dX7_across_9 hp0 ?_
    refine g_goto (tgt := 19) C dX7_across_12 (by decide) ?_
    exact g_iretR C hR hf dX7_across_19
abbrev rm_X7_carry : Room := { frames := 3, cells := 0, slots := 0, locals := 75 }
set_option maxRecDepth 100000 in
set_option maxHeartbeats 4000000 in
theorem t_X7_carry_L6 {Γ : CX} {l : Launch} {E : EV} {a0 : Nat} {σ : ST} {rr : Int64} (C : FX Γ l cX7_carry 7 RX7 rm_X7_carry E) (hR : RT Γ (some .long) E (some (.long rr)) σ) (hp0 : pv σ a0) : ∀ (n : Nat) (v1 : Int64) (v3 : Int32) (v4 : Int64) (v6 : Int32), f_X7_carry_L6 a0 σ n v1 v3 v4 v6 = some rr → GW Γ 7 E σ 6 [(0, .ref a0), (1, .long v1), (3, .int v3), (4, .long v4), (6, .int v6)] [] := by
  intro n
  induction n with
  | zero => intro v1 v3 v4 v6 hf; exact nomatch hf
  | succ n ih =>
    intro v1 v3 v4 v6 hf
    rw [f_X7_carry_L6] at hf
    refine g_iload C 4 dX7_carry_6 rfl ?_
    refine g_bipush C dX7_carry_8 (v := 8) (by decide) ?_
    refine g_icmp_ge (tgt := 46) C dX7_carry_10 (by decide) (fun c1 => ?_) (fun c1 => ?_)
    · rw [if_pos c1] at hf
      refine g_lload C 3 dX7_carry_46 rfl ?_
      exact g_lretR C hR hf dX7_carry_48
    · rw [if_neg c1] at hf
      refine g_lload_n C 1 dX7_carry_13 rfl ?_
      refine g_iload C 4 dX7_carry_14 rfl ?_
      obtain ⟨r3, h2, hf⟩ := o_bind hf
      refine g_callS C (c_X8_note l E h2) k_X7_18 ⟨rfl, rfl, Nat.le_of_ble_eq_true rfl, Nat.le_of_ble_eq_true rfl⟩ rfl (Nat.le_of_ble_eq_true rfl) dX7_carry_16 _ rfl ?_
      refine g_iconst C dX7_carry_19 (v := (-1)) (by decide) ?_
      refine g_icmp_eq (tgt := 46) C dX7_carry_20 (by decide) (fun c4 => ?_) (fun c4 => ?_)
      · rw [if_pos c4] at hf
        refine g_lload C 3 dX7_carry_46 rfl ?_
        exact g_lretR C hR hf dX7_carry_48
      · rw [if_neg c4] at hf
        refine g_lload C 3 dX7_carry_23 rfl ?_
        refine g_iload C 4 dX7_carry_25 rfl ?_
        refine g_aload_n C 0 dX7_carry_27 rfl ?_
        refine g_lload_n C 1 dX7_carry_28 rfl ?_
        refine g_iload C 4 dX7_carry_29 rfl ?_
        refine g_iload_n C 2 dX7_carry_31 rfl ?_
        obtain ⟨r6, h5, hf⟩ := o_bind hf
        have Kr6 : GW Γ 7 E σ 35 [(0, .ref a0), (1, .long v1), (3, .int v3), (4, .long v4), (6, .int v6)] [.int r6, .int v6, .long v4] := by
          obtain ⟨r8, h7, hf⟩ := o_bind hf
          refine g_callS C (c_X8_with l E h7) k_X7_28 ⟨rfl, rfl, Nat.le_of_ble_eq_true rfl, Nat.le_of_ble_eq_true rfl⟩ rfl (Nat.le_of_ble_eq_true rfl) dX7_carry_35 _ rfl ?_
          refine g_lstore C dX7_carry_38 (by decide) [(4, .long r8), (0, .ref a0), (1, .long v1), (3, .int v3), (6, .int v6)] rfl ?_
          obtain ⟨x9, hx9, hf⟩ := o_let hf
          refine g_iinc C 4 dX7_carry_40 rfl hx9 (by decide) [(6, .int x9), (4, .long r8), (0, .ref a0), (1, .long v1), (3, .int v3)] rfl ?_
          refine g_goto (tgt := 6) C dX7_carry_43 (by decide) ?_
          exact g_lv [(0, .ref a0), (1, .long v1), (3, .int v3), (4, .long r8), (6, .int x9)] [2, 3, 4, 1, 0] rfl (ih v1 v3 r8 x9 hf)
        rcases hp0.2 with hk | hk | hk | hk | hk
        · exact g_callU C (c_X0_heard l E a0 (show f_X0_heard v1 v6 v3 = some r6 from by rw [hk] at h5; exact h5)) cls_0 hp0.1 hk ku_X7_24_0 ⟨rfl, rfl, Nat.le_of_ble_eq_true rfl, Nat.le_of_ble_eq_true rfl⟩ rfl (Nat.le_of_ble_eq_true rfl) dX7_carry_32 _ rfl Kr6
        · exact g_callU C (c_X2_heard l E a0 (show f_X2_heard v1 v6 v3 = some r6 from by rw [hk] at h5; exact h5)) cls_2 hp0.1 hk ku_X7_24_2 ⟨rfl, rfl, Nat.le_of_ble_eq_true rfl, Nat.le_of_ble_eq_true rfl⟩ rfl (Nat.le_of_ble_eq_true rfl) dX7_carry_32 _ rfl Kr6
        · exact g_callU C (c_X5_heard l E a0 hp0.1 hk (show f_X5_heard v1 v6 v3 = some r6 from by rw [hk] at h5; exact h5)) cls_5 hp0.1 hk ku_X7_24_5 ⟨rfl, rfl, Nat.le_of_ble_eq_true rfl, Nat.le_of_ble_eq_true rfl⟩ rfl (Nat.le_of_ble_eq_true rfl) dX7_carry_32 _ rfl Kr6
        · exact g_callU C (c_X6_heard l E a0 (show f_X6_heard v1 v6 v3 = some r6 from by rw [hk] at h5; exact h5)) cls_6 hp0.1 hk ku_X7_24_6 ⟨rfl, rfl, Nat.le_of_ble_eq_true rfl, Nat.le_of_ble_eq_true rfl⟩ rfl (Nat.le_of_ble_eq_true rfl) dX7_carry_32 _ rfl Kr6
        · exact g_callU C (c_X7_heard l E a0 (show f_X7_heard v1 v6 v3 = some r6 from by rw [hk] at h5; exact h5)) cls_7 hp0.1 hk ku_X7_24_7 ⟨rfl, rfl, Nat.le_of_ble_eq_true rfl, Nat.le_of_ble_eq_true rfl⟩ rfl (Nat.le_of_ble_eq_true rfl) dX7_carry_32 _ rfl Kr6
set_option maxRecDepth 100000 in
set_option maxHeartbeats 4000000 in
theorem c_X7_carry (l : Launch) (E : EV) (a0 : Nat) {σ : ST} (hp0 : pv σ a0) {p0 : Int64} {p1 : Int32} {rr : Int64} (hf : f_X7_carry a0 σ p0 p1 = some rr) : CT l E yX7_carry cX7_carry 7 (some .long) rm_X7_carry [.ref a0, .long p0, .int p1] σ (some (.long rr)) σ := by
  refine CT.of RX7 rfl (by decide) (Nat.le_of_ble_eq_true rfl) rfl rfl (fun Γ C hR => ?_)
  show GW Γ 7 E σ 0 [(0, .ref a0), (1, .long p0), (3, .int p1)] []
  rw [f_X7_carry] at hf
  refine g_lconst C dX7_carry_0 (v := 0) (by decide) ?_
  refine g_lstore C dX7_carry_1 (by decide) [(4, .long 0), (0, .ref a0), (1, .long p0), (3, .int p1)] rfl ?_
  refine g_iconst C dX7_carry_3 (v := 0) (by decide) ?_
  refine g_istore C dX7_carry_4 (by decide) [(6, .int 0), (4, .long 0), (0, .ref a0), (1, .long p0), (3, .int p1)] rfl ?_
  exact g_lv [(0, .ref a0), (1, .long p0), (3, .int p1), (4, .long 0), (6, .int 0)] [2, 3, 4, 1, 0] rfl (t_X7_carry_L6 C hR hp0 fuel p0 p1 0 0 hf)
abbrev rm_X7_makes : Room := { frames := 3, cells := 0, slots := 0, locals := 75 }
set_option maxRecDepth 100000 in
set_option maxHeartbeats 4000000 in
theorem t_X7_makes_B46 {Γ : CX} {l : Launch} {E : EV} {a0 : Nat} {σ : ST} {rr : Int32} (C : FX Γ l cX7_makes 7 RX7 rm_X7_makes E) (hR : RT Γ (some .boolean) E (some (.int rr)) σ) (hp0 : pv σ a0) (v4 : Int64) (v6 : Int32) (hf : f_X7_makes_B46 a0 σ v4 v6 = some rr) : GW Γ 7 E σ 46 [(4, .long v4), (6, .int v6)] [] := by
  rw [f_X7_makes_B46] at hf
  refine g_lload C 0 dX7_makes_46 rfl ?_
  refine g_iload C 1 dX7_makes_48 rfl ?_
  obtain ⟨r3, h2, hf⟩ := o_bind hf
  refine g_callS C (c_X8_note l E h2) k_X7_18 ⟨rfl, rfl, Nat.le_of_ble_eq_true rfl, Nat.le_of_ble_eq_true rfl⟩ rfl (Nat.le_of_ble_eq_true rfl) dX7_makes_50 _ rfl ?_
  refine g_iconst C dX7_makes_53 (v := (-1)) (by decide) ?_
  refine g_icmp_ne (tgt := 61) C dX7_makes_54 (by decide) (fun c4 => ?_) (fun c4 => ?_)
  · rw [if_neg c4] at hf
    refine g_iconst C dX7_makes_61 (v := 0) (by decide) ?_
    exact g_zretR C hR hf (by decide) dX7_makes_62
  · rw [if_pos c4] at hf
    refine g_iconst C dX7_makes_57 (v := 1) (by decide) ?_
    refine g_goto (tgt := 62) C dX7_makes_58 (by decide) ?_
    exact g_zretR C hR hf (by decide) dX7_makes_62
set_option maxRecDepth 100000 in
set_option maxHeartbeats 4000000 in
theorem t_X7_makes_L3 {Γ : CX} {l : Launch} {E : EV} {a0 : Nat} {σ : ST} {rr : Int32} (C : FX Γ l cX7_makes 7 RX7 rm_X7_makes E) (hR : RT Γ (some .boolean) E (some (.int rr)) σ) (hp0 : pv σ a0) : ∀ (n : Nat) (v1 : Int64) (v3 : Int32) (v4 : Int64) (v6 : Int32), f_X7_makes_L3 a0 σ n v1 v3 v4 v6 = some rr → GW Γ 7 E σ 3 [(0, .ref a0), (1, .long v1), (3, .int v3), (4, .long v4), (6, .int v6)] [] := by
  intro n
  induction n with
  | zero => intro v1 v3 v4 v6 hf; exact nomatch hf
  | succ n ih =>
    intro v1 v3 v4 v6 hf
    rw [f_X7_makes_L3] at hf
    refine g_iload C 4 dX7_makes_3 rfl ?_
    refine g_bipush C dX7_makes_5 (v := 8) (by decide) ?_
    refine g_icmp_ge (tgt := 46) C dX7_makes_7 (by decide) (fun c1 => ?_) (fun c1 => ?_)
    · rw [if_pos c1] at hf
      exact g_lv [(4, .long v4), (6, .int v6)] [3, 4] rfl (t_X7_makes_B46 C hR hp0 v4 v6 hf)
    · rw [if_neg c1] at hf
      refine g_lload_n C 1 dX7_makes_10 rfl ?_
      refine g_iload C 4 dX7_makes_11 rfl ?_
      obtain ⟨r6, h5, hf⟩ := o_bind hf
      refine g_callS C (c_X8_note l E h5) k_X7_18 ⟨rfl, rfl, Nat.le_of_ble_eq_true rfl, Nat.le_of_ble_eq_true rfl⟩ rfl (Nat.le_of_ble_eq_true rfl) dX7_makes_13 _ rfl ?_
      refine g_iconst C dX7_makes_16 (v := (-1)) (by decide) ?_
      refine g_icmp_eq (tgt := 46) C dX7_makes_17 (by decide) (fun c7 => ?_) (fun c7 => ?_)
      · rw [if_pos c7] at hf
        exact g_lv [(4, .long v4), (6, .int v6)] [3, 4] rfl (t_X7_makes_B46 C hR hp0 v4 v6 hf)
      · rw [if_neg c7] at hf
        refine g_aload_n C 0 dX7_makes_20 rfl ?_
        refine g_lload_n C 1 dX7_makes_21 rfl ?_
        refine g_iload C 4 dX7_makes_22 rfl ?_
        refine g_iload_n C 2 dX7_makes_24 rfl ?_
        obtain ⟨r9, h8, hf⟩ := o_bind hf
        have Kr9 : GW Γ 7 E σ 28 [(0, .ref a0), (1, .long v1), (3, .int v3), (4, .long v4), (6, .int v6)] [.int r9] := by
          refine g_lload C 3 dX7_makes_28 rfl ?_
          refine g_iload C 4 dX7_makes_30 rfl ?_
          obtain ⟨r11, h10, hf⟩ := o_bind hf
          refine g_callS C (c_X8_note l E h10) k_X7_18 ⟨rfl, rfl, Nat.le_of_ble_eq_true rfl, Nat.le_of_ble_eq_true rfl⟩ rfl (Nat.le_of_ble_eq_true rfl) dX7_makes_32 _ rfl ?_
          refine g_icmp_eq (tgt := 40) C dX7_makes_35 (by decide) (fun c12 => ?_) (fun c12 => ?_)
          · rw [if_pos c12] at hf
            obtain ⟨x13, hx13, hf⟩ := o_let hf
            refine g_iinc C 4 dX7_makes_40 rfl hx13 (by decide) [(6, .int x13), (0, .ref a0), (1, .long v1), (3, .int v3), (4, .long v4)] rfl ?_
            refine g_goto (tgt := 3) C dX7_makes_43 (by decide) ?_
            exact g_lv [(0, .ref a0), (1, .long v1), (3, .int v3), (4, .long v4), (6, .int x13)] [1, 2, 3, 4, 0] rfl (ih v1 v3 v4 x13 hf)
          · rw [if_neg c12] at hf
            refine g_iconst C dX7_makes_38 (v := 0) (by decide) ?_
            exact g_zretR C hR hf (by decide) dX7_makes_39
        rcases hp0.2 with hk | hk | hk | hk | hk
        · exact g_callU C (c_X0_heard l E a0 (show f_X0_heard v1 v6 v3 = some r9 from by rw [hk] at h8; exact h8)) cls_0 hp0.1 hk ku_X7_24_0 ⟨rfl, rfl, Nat.le_of_ble_eq_true rfl, Nat.le_of_ble_eq_true rfl⟩ rfl (Nat.le_of_ble_eq_true rfl) dX7_makes_25 _ rfl Kr9
        · exact g_callU C (c_X2_heard l E a0 (show f_X2_heard v1 v6 v3 = some r9 from by rw [hk] at h8; exact h8)) cls_2 hp0.1 hk ku_X7_24_2 ⟨rfl, rfl, Nat.le_of_ble_eq_true rfl, Nat.le_of_ble_eq_true rfl⟩ rfl (Nat.le_of_ble_eq_true rfl) dX7_makes_25 _ rfl Kr9
        · exact g_callU C (c_X5_heard l E a0 hp0.1 hk (show f_X5_heard v1 v6 v3 = some r9 from by rw [hk] at h8; exact h8)) cls_5 hp0.1 hk ku_X7_24_5 ⟨rfl, rfl, Nat.le_of_ble_eq_true rfl, Nat.le_of_ble_eq_true rfl⟩ rfl (Nat.le_of_ble_eq_true rfl) dX7_makes_25 _ rfl Kr9
        · exact g_callU C (c_X6_heard l E a0 (show f_X6_heard v1 v6 v3 = some r9 from by rw [hk] at h8; exact h8)) cls_6 hp0.1 hk ku_X7_24_6 ⟨rfl, rfl, Nat.le_of_ble_eq_true rfl, Nat.le_of_ble_eq_true rfl⟩ rfl (Nat.le_of_ble_eq_true rfl) dX7_makes_25 _ rfl Kr9
        · exact g_callU C (c_X7_heard l E a0 (show f_X7_heard v1 v6 v3 = some r9 from by rw [hk] at h8; exact h8)) cls_7 hp0.1 hk ku_X7_24_7 ⟨rfl, rfl, Nat.le_of_ble_eq_true rfl, Nat.le_of_ble_eq_true rfl⟩ rfl (Nat.le_of_ble_eq_true rfl) dX7_makes_25 _ rfl Kr9
set_option maxRecDepth 100000 in
set_option maxHeartbeats 4000000 in
theorem c_X7_makes (l : Launch) (E : EV) (a0 : Nat) {σ : ST} (hp0 : pv σ a0) {p0 : Int64} {p1 : Int32} {p2 : Int64} {rr : Int32} (hf : f_X7_makes a0 σ p0 p1 p2 = some rr) : CT l E yX7_makes cX7_makes 7 (some .boolean) rm_X7_makes [.ref a0, .long p0, .int p1, .long p2] σ (some (.int rr)) σ := by
  refine CT.of RX7 rfl (by decide) (Nat.le_of_ble_eq_true rfl) rfl rfl (fun Γ C hR => ?_)
  show GW Γ 7 E σ 0 [(0, .ref a0), (1, .long p0), (3, .int p1), (4, .long p2)] []
  rw [f_X7_makes] at hf
  refine g_iconst C dX7_makes_0 (v := 0) (by decide) ?_
  refine g_istore C dX7_makes_1 (by decide) [(6, .int 0), (0, .ref a0), (1, .long p0), (3, .int p1), (4, .long p2)] rfl ?_
  exact g_lv [(0, .ref a0), (1, .long p0), (3, .int p1), (4, .long p2), (6, .int 0)] [1, 2, 3, 4, 0] rfl (t_X7_makes_L3 C hR hp0 fuel p0 p1 p2 0 hf)
abbrev rm_X7_alone : Room := { frames := 3, cells := 0, slots := 0, locals := 75 }
set_option maxRecDepth 100000 in
set_option maxHeartbeats 4000000 in
theorem c_X7_alone (l : Launch) (E : EV) (a0 : Nat) {σ : ST} (hp0 : pv σ a0) {p0 : Int32} {p1 : Int32} {rr : Int32} (hf : f_X7_alone a0 σ p0 p1 = some rr) : CT l E yX7_alone cX7_alone 3 (some .int) rm_X7_alone [.ref a0, .int p0, .int p1] σ (some (.int rr)) σ := by
  refine CT.of RX7 rfl (by decide) (Nat.le_of_ble_eq_true rfl) rfl rfl (fun Γ C hR => ?_)
  show GW Γ 3 E σ 0 [(0, .ref a0), (1, .int p0), (2, .int p1)] []
  rw [f_X7_alone] at hf
  refine g_aload_n C 0 dX7_alone_0 rfl ?_
  refine g_lconst C dX7_alone_1 (v := 0) (by decide) ?_
  refine g_iconst C dX7_alone_2 (v := 0) (by decide) ?_
  refine g_iload_n C 1 dX7_alone_3 rfl ?_
  obtain ⟨r2, h1, hf⟩ := o_bind hf
  refine g_callS C (c_X8_with l E h1) k_X7_28 ⟨rfl, rfl, Nat.le_of_ble_eq_true rfl, Nat.le_of_ble_eq_true rfl⟩ rfl (Nat.le_of_ble_eq_true rfl) dX7_alone_4 _ rfl ?_
  refine g_iconst C dX7_alone_7 (v := 0) (by decide) ?_
  refine g_iload_n C 2 dX7_alone_8 rfl ?_
  obtain ⟨r4, h3, hf⟩ := o_bind hf
  have Kr4 : GW Γ 3 E σ 12 [(0, .ref a0), (1, .int p0), (2, .int p1)] [.int r4] := by
    exact g_iretR C hR hf dX7_alone_12
  rcases hp0.2 with hk | hk | hk | hk | hk
  · exact g_callU C (c_X0_heard l E a0 (show f_X0_heard r2 0 p1 = some r4 from by rw [hk] at h3; exact h3)) cls_0 hp0.1 hk ku_X7_24_0 ⟨rfl, rfl, Nat.le_of_ble_eq_true rfl, Nat.le_of_ble_eq_true rfl⟩ rfl (Nat.le_of_ble_eq_true rfl) dX7_alone_9 _ rfl Kr4
  · exact g_callU C (c_X2_heard l E a0 (show f_X2_heard r2 0 p1 = some r4 from by rw [hk] at h3; exact h3)) cls_2 hp0.1 hk ku_X7_24_2 ⟨rfl, rfl, Nat.le_of_ble_eq_true rfl, Nat.le_of_ble_eq_true rfl⟩ rfl (Nat.le_of_ble_eq_true rfl) dX7_alone_9 _ rfl Kr4
  · exact g_callU C (c_X5_heard l E a0 hp0.1 hk (show f_X5_heard r2 0 p1 = some r4 from by rw [hk] at h3; exact h3)) cls_5 hp0.1 hk ku_X7_24_5 ⟨rfl, rfl, Nat.le_of_ble_eq_true rfl, Nat.le_of_ble_eq_true rfl⟩ rfl (Nat.le_of_ble_eq_true rfl) dX7_alone_9 _ rfl Kr4
  · exact g_callU C (c_X6_heard l E a0 (show f_X6_heard r2 0 p1 = some r4 from by rw [hk] at h3; exact h3)) cls_6 hp0.1 hk ku_X7_24_6 ⟨rfl, rfl, Nat.le_of_ble_eq_true rfl, Nat.le_of_ble_eq_true rfl⟩ rfl (Nat.le_of_ble_eq_true rfl) dX7_alone_9 _ rfl Kr4
  · exact g_callU C (c_X7_heard l E a0 (show f_X7_heard r2 0 p1 = some r4 from by rw [hk] at h3; exact h3)) cls_7 hp0.1 hk ku_X7_24_7 ⟨rfl, rfl, Nat.le_of_ble_eq_true rfl, Nat.le_of_ble_eq_true rfl⟩ rfl (Nat.le_of_ble_eq_true rfl) dX7_alone_9 _ rfl Kr4
abbrev rm_X10_isNote : Room := { frames := 0, cells := 0, slots := 0, locals := 0 }
set_option maxRecDepth 100000 in
set_option maxHeartbeats 4000000 in
theorem c_X10_isNote (l : Launch) (E : EV) {σ : ST} {p0 : Int32} {rr : Int32} (hf : f_X10_isNote p0 = some rr) : CT l E yX10_isNote cX10_isNote 1 (some .boolean) rm_X10_isNote [.int p0] σ (some (.int rr)) σ := by
  refine CT.of RX10 rfl (by decide) (Nat.le_of_ble_eq_true rfl) rfl rfl (fun Γ C hR => ?_)
  show GW Γ 1 E σ 0 [(0, .int p0)] []
  rw [f_X10_isNote] at hf
  refine g_iload_n C 0 dX10_isNote_0 rfl ?_
  refine g_if_lt (y := 0) (tgt := 14) C dX10_isNote_1 (by decide) (fun c1 => ?_) (fun c1 => ?_)
  · rw [if_pos c1] at hf
    refine g_iconst C dX10_isNote_14 (v := 0) (by decide) ?_
    exact g_zretR C hR hf (by decide) dX10_isNote_15
  · rw [if_neg c1] at hf
    refine g_iload_n C 0 dX10_isNote_4 rfl ?_
    refine g_bipush C dX10_isNote_5 (v := 12) (by decide) ?_
    refine g_icmp_ge (tgt := 14) C dX10_isNote_7 (by decide) (fun c2 => ?_) (fun c2 => ?_)
    · rw [if_pos c2] at hf
      refine g_iconst C dX10_isNote_14 (v := 0) (by decide) ?_
      exact g_zretR C hR hf (by decide) dX10_isNote_15
    · rw [if_neg c2] at hf
      refine g_iconst C dX10_isNote_10 (v := 1) (by decide) ?_
      refine g_goto (tgt := 15) C dX10_isNote_11 (by decide) ?_
      exact g_zretR C hR hf (by decide) dX10_isNote_15
abbrev rm_X4_add : Room := { frames := 0, cells := 0, slots := 0, locals := 0 }
set_option maxRecDepth 100000 in
set_option maxHeartbeats 4000000 in
theorem c_X4_add (l : Launch) (E : EV) {σ ss : ST} {p0 : Int32} (hf : f_X4_add p0 σ = some ss) : CT l E yX4_add cX4_add 2 none rm_X4_add [.ref (E.2.1 1), .int p0] σ none ss := by
  refine CT.of RX4 rfl (by decide) (Nat.le_of_ble_eq_true rfl) rfl rfl (fun Γ C hR => ?_)
  show GW Γ 2 E σ 0 [(0, .ref (E.2.1 1)), (1, .int p0)] []
  rw [f_X4_add] at hf
  refine g_aload_n C 0 dX4_add_0 rfl ?_
  refine fg_X4_15_1 C dX4_add_1 ?_
  refine g_if_lt (y := 0) (tgt := 39) C dX4_add_4 (by decide) (fun c1 => ?_) (fun c1 => ?_)
  · rw [if_pos c1] at hf
    exact g_vretW C hR hf dX4_add_39
  · rw [if_neg c1] at hf
    refine g_aload_n C 0 dX4_add_7 rfl ?_
    refine fg_X4_15_1 C dX4_add_8 ?_
    refine g_aload_n C 0 dX4_add_11 rfl ?_
    refine fg_X4_11_1 C dX4_add_12 ?_
    refine g_alenA C ar_2 dX4_add_15 (v := 44) (by decide) ?_
    refine g_icmp_ge (tgt := 39) C dX4_add_16 (by decide) (fun c2 => ?_) (fun c2 => ?_)
    · rw [if_pos c2] at hf
      exact g_vretW C hR hf dX4_add_39
    · rw [if_neg c2] at hf
      refine g_aload_n C 0 dX4_add_19 rfl ?_
      refine fg_X4_11_1 C dX4_add_20 ?_
      refine g_aload_n C 0 dX4_add_23 rfl ?_
      refine fg_X4_15_1 C dX4_add_24 ?_
      refine g_iload_n C 1 dX4_add_27 rfl ?_
      obtain ⟨h4, hf⟩ := o_if hf
      obtain ⟨σ3, hσ3, hf⟩ := o_let hf
      refine g_ast C ar_2 dX4_add_28 (k := (σ.1 1 1).toNatClampNeg) rfl h4 hσ3 ?_
      refine g_aload_n C 0 dX4_add_29 rfl ?_
      refine g_dup C dX4_add_30 rfl ?_
      refine fg_X4_15_1 C dX4_add_31 ?_
      refine g_iconst C dX4_add_34 (v := 1) (by decide) ?_
      refine g_iadd C dX4_add_35 ?_
      obtain ⟨σ5, hσ5, hf⟩ := o_let hf
      refine fp_X4_15_1 C dX4_add_36 hσ5 ?_
      exact g_vretW C hR hf dX4_add_39
abbrev rm_X4_at : Room := { frames := 0, cells := 0, slots := 0, locals := 0 }
set_option maxRecDepth 100000 in
set_option maxHeartbeats 4000000 in
theorem c_X4_at (l : Launch) (E : EV) {σ : ST} {p0 : Int32} {rr : Int32} (hf : f_X4_at σ p0 = some rr) : CT l E yX4_at cX4_at 2 (some .int) rm_X4_at [.ref (E.2.1 1), .int p0] σ (some (.int rr)) σ := by
  refine CT.of RX4 rfl (by decide) (Nat.le_of_ble_eq_true rfl) rfl rfl (fun Γ C hR => ?_)
  show GW Γ 2 E σ 0 [(0, .ref (E.2.1 1)), (1, .int p0)] []
  rw [f_X4_at] at hf
  refine g_iload_n C 1 dX4_at_0 rfl ?_
  refine g_if_lt (y := 0) (tgt := 30) C dX4_at_1 (by decide) (fun c1 => ?_) (fun c1 => ?_)
  · rw [if_pos c1] at hf
    refine g_iconst C dX4_at_30 (v := 0) (by decide) ?_
    exact g_iretR C hR hf dX4_at_31
  · rw [if_neg c1] at hf
    refine g_iload_n C 1 dX4_at_4 rfl ?_
    refine g_aload_n C 0 dX4_at_5 rfl ?_
    refine fg_X4_15_1 C dX4_at_6 ?_
    refine g_icmp_ge (tgt := 30) C dX4_at_9 (by decide) (fun c2 => ?_) (fun c2 => ?_)
    · rw [if_pos c2] at hf
      refine g_iconst C dX4_at_30 (v := 0) (by decide) ?_
      exact g_iretR C hR hf dX4_at_31
    · rw [if_neg c2] at hf
      refine g_iload_n C 1 dX4_at_12 rfl ?_
      refine g_aload_n C 0 dX4_at_13 rfl ?_
      refine fg_X4_11_1 C dX4_at_14 ?_
      refine g_alenA C ar_2 dX4_at_17 (v := 44) (by decide) ?_
      refine g_icmp_ge (tgt := 30) C dX4_at_18 (by decide) (fun c3 => ?_) (fun c3 => ?_)
      · rw [if_pos c3] at hf
        refine g_iconst C dX4_at_30 (v := 0) (by decide) ?_
        exact g_iretR C hR hf dX4_at_31
      · rw [if_neg c3] at hf
        refine g_aload_n C 0 dX4_at_21 rfl ?_
        refine fg_X4_11_1 C dX4_at_22 ?_
        refine g_iload_n C 1 dX4_at_25 rfl ?_
        obtain ⟨h4, hf⟩ := o_if hf
        refine g_ald C ar_2 dX4_at_26 (k := p0.toNatClampNeg) rfl h4 ?_
        refine g_goto (tgt := 31) C dX4_at_27 (by decide) ?_
        exact g_iretR C hR hf dX4_at_31
abbrev rm_X4_noteAt : Room := { frames := 1, cells := 0, slots := 0, locals := 21 }
set_option maxRecDepth 100000 in
set_option maxHeartbeats 4000000 in
theorem c_X4_noteAt (l : Launch) (E : EV) {σ : ST} {p0 : Int32} {rr : Int32} (hf : f_X4_noteAt σ p0 = some rr) : CT l E yX4_noteAt cX4_noteAt 3 (some .int) rm_X4_noteAt [.ref (E.2.1 1), .int p0] σ (some (.int rr)) σ := by
  refine CT.of RX4 rfl (by decide) (Nat.le_of_ble_eq_true rfl) rfl rfl (fun Γ C hR => ?_)
  show GW Γ 3 E σ 0 [(0, .ref (E.2.1 1)), (1, .int p0)] []
  rw [f_X4_noteAt] at hf
  refine g_aload_n C 0 dX4_noteAt_0 rfl ?_
  refine g_iload_n C 1 dX4_noteAt_1 rfl ?_
  obtain ⟨r2, h1, hf⟩ := o_bind hf
  refine g_callV C 1 (c_X4_at l E h1) cls_4 k_X4_19 ⟨rfl, rfl, Nat.le_of_ble_eq_true rfl, Nat.le_of_ble_eq_true rfl⟩ (by decide) rfl rfl (Nat.le_of_ble_eq_true rfl) dX4_noteAt_2 _ rfl ?_
  refine g_bipush C dX4_noteAt_5 (v := 97) (by decide) ?_
  refine g_isub C dX4_noteAt_7 ?_
  obtain ⟨x3, hx3, hf⟩ := o_let hf
  refine g_topi hx3 ?_
  refine g_istore_n C dX4_noteAt_8 (by decide) [(2, .int x3), (0, .ref (E.2.1 1)), (1, .int p0)] rfl ?_
  refine g_iload_n C 0 dX4_noteAt_9 rfl ?_
  obtain ⟨r5, h4, hf⟩ := o_bind hf
  refine g_callSN C (c_X10_isNote l E h4) kn_X4_23 ⟨rfl, rfl, Nat.le_of_ble_eq_true rfl, Nat.le_of_ble_eq_true rfl⟩ rfl (Nat.le_of_ble_eq_true rfl) dX4_noteAt_10 _ rfl ?_
  refine g_if_eq (y := 0) (tgt := 20) C dX4_noteAt_13 (by decide) (fun c6 => ?_) (fun c6 => ?_)
  · rw [if_pos c6] at hf
    refine g_iconst C dX4_noteAt_20 (v := (-1)) (by decide) ?_
    exact g_iretR C hR hf dX4_noteAt_21
  · rw [if_neg c6] at hf
    refine g_iload_n C 0 dX4_noteAt_16 rfl ?_
    refine g_goto (tgt := 21) C dX4_noteAt_17 (by decide) ?_
    exact g_iretR C hR hf dX4_noteAt_21
abbrev rm_X4_digitAt : Room := { frames := 1, cells := 0, slots := 0, locals := 21 }
set_option maxRecDepth 100000 in
set_option maxHeartbeats 4000000 in
theorem c_X4_digitAt (l : Launch) (E : EV) {σ : ST} {p0 : Int32} {rr : Int32} (hf : f_X4_digitAt σ p0 = some rr) : CT l E yX4_digitAt cX4_digitAt 2 (some .int) rm_X4_digitAt [.ref (E.2.1 1), .int p0] σ (some (.int rr)) σ := by
  refine CT.of RX4 rfl (by decide) (Nat.le_of_ble_eq_true rfl) rfl rfl (fun Γ C hR => ?_)
  show GW Γ 2 E σ 0 [(0, .ref (E.2.1 1)), (1, .int p0)] []
  rw [f_X4_digitAt] at hf
  refine g_aload_n C 0 dX4_digitAt_0 rfl ?_
  refine g_iload_n C 1 dX4_digitAt_1 rfl ?_
  obtain ⟨r2, h1, hf⟩ := o_bind hf
  refine g_callV C 1 (c_X4_at l E h1) cls_4 k_X4_19 ⟨rfl, rfl, Nat.le_of_ble_eq_true rfl, Nat.le_of_ble_eq_true rfl⟩ (by decide) rfl rfl (Nat.le_of_ble_eq_true rfl) dX4_digitAt_2 _ rfl ?_
  refine g_bipush C dX4_digitAt_5 (v := 48) (by decide) ?_
  refine g_isub C dX4_digitAt_7 ?_
  exact g_iretR C hR hf dX4_digitAt_8
abbrev rm_X4_kindOf : Room := { frames := 4, cells := 0, slots := 0, locals := 91 }
set_option maxRecDepth 100000 in
set_option maxHeartbeats 4000000 in
theorem c_X4_kindOf (l : Launch) (E : EV) {σ : ST} {p0 : Int32} {rr : Int32} (hf : f_X4_kindOf σ p0 = some rr) : CT l E yX4_kindOf cX4_kindOf 2 (some .int) rm_X4_kindOf [.ref (E.2.1 1), .int p0] σ (some (.int rr)) σ := by
  refine CT.of RX4 rfl (by decide) (Nat.le_of_ble_eq_true rfl) rfl rfl (fun Γ C hR => ?_)
  show GW Γ 2 E σ 0 [(0, .ref (E.2.1 1)), (1, .int p0)] []
  rw [f_X4_kindOf] at hf
  refine g_ldcS C dX4_kindOf_0 ?_
  refine g_aload_n C 0 dX4_kindOf_2 rfl ?_
  refine g_iconst C dX4_kindOf_3 (v := 2) (by decide) ?_
  refine g_iload_n C 1 dX4_kindOf_4 rfl ?_
  refine g_iconst C dX4_kindOf_5 (v := 5) (by decide) ?_
  refine g_imul C dX4_kindOf_6 ?_
  refine g_iadd C dX4_kindOf_7 ?_
  obtain ⟨r2, h1, hf⟩ := o_bind hf
  refine g_callV C 1 (c_X4_at l E h1) cls_4 k_X4_19 ⟨rfl, rfl, Nat.le_of_ble_eq_true rfl, Nat.le_of_ble_eq_true rfl⟩ (by decide) rfl rfl (Nat.le_of_ble_eq_true rfl) dX4_kindOf_8 _ rfl ?_
  refine g_i2c C dX4_kindOf_11 ?_
  obtain ⟨r4, h3, hf⟩ := o_bind hf
  refine g_callVS C (c_J0_indexOf_0f7a4 l E h3) k_X4_29 ⟨rfl, rfl, Nat.le_of_ble_eq_true rfl, Nat.le_of_ble_eq_true rfl⟩ rfl (Nat.le_of_ble_eq_true rfl) dX4_kindOf_12 _ rfl ?_
  exact g_iretR C hR hf dX4_kindOf_15
abbrev rm_X4_oneEndOf : Room := { frames := 2, cells := 0, slots := 0, locals := 42 }
set_option maxRecDepth 100000 in
set_option maxHeartbeats 4000000 in
theorem c_X4_oneEndOf (l : Launch) (E : EV) {σ : ST} {p0 : Int32} {rr : Int32} (hf : f_X4_oneEndOf σ p0 = some rr) : CT l E yX4_oneEndOf cX4_oneEndOf 2 (some .int) rm_X4_oneEndOf [.ref (E.2.1 1), .int p0] σ (some (.int rr)) σ := by
  refine CT.of RX4 rfl (by decide) (Nat.le_of_ble_eq_true rfl) rfl rfl (fun Γ C hR => ?_)
  show GW Γ 2 E σ 0 [(0, .ref (E.2.1 1)), (1, .int p0)] []
  rw [f_X4_oneEndOf] at hf
  refine g_aload_n C 0 dX4_oneEndOf_0 rfl ?_
  refine g_iconst C dX4_oneEndOf_1 (v := 2) (by decide) ?_
  refine g_iload_n C 1 dX4_oneEndOf_2 rfl ?_
  refine g_iconst C dX4_oneEndOf_3 (v := 5) (by decide) ?_
  refine g_imul C dX4_oneEndOf_4 ?_
  refine g_iadd C dX4_oneEndOf_5 ?_
  refine g_iconst C dX4_oneEndOf_6 (v := 1) (by decide) ?_
  refine g_iadd C dX4_oneEndOf_7 ?_
  obtain ⟨r2, h1, hf⟩ := o_bind hf
  refine g_callV C 1 (c_X4_digitAt l E h1) cls_4 k_X4_34 ⟨rfl, rfl, Nat.le_of_ble_eq_true rfl, Nat.le_of_ble_eq_true rfl⟩ (by decide) rfl rfl (Nat.le_of_ble_eq_true rfl) dX4_oneEndOf_8 _ rfl ?_
  exact g_iretR C hR hf dX4_oneEndOf_11
abbrev rm_X4_otherEndOf : Room := { frames := 2, cells := 0, slots := 0, locals := 42 }
set_option maxRecDepth 100000 in
set_option maxHeartbeats 4000000 in
theorem c_X4_otherEndOf (l : Launch) (E : EV) {σ : ST} {p0 : Int32} {rr : Int32} (hf : f_X4_otherEndOf σ p0 = some rr) : CT l E yX4_otherEndOf cX4_otherEndOf 2 (some .int) rm_X4_otherEndOf [.ref (E.2.1 1), .int p0] σ (some (.int rr)) σ := by
  refine CT.of RX4 rfl (by decide) (Nat.le_of_ble_eq_true rfl) rfl rfl (fun Γ C hR => ?_)
  show GW Γ 2 E σ 0 [(0, .ref (E.2.1 1)), (1, .int p0)] []
  rw [f_X4_otherEndOf] at hf
  refine g_aload_n C 0 dX4_otherEndOf_0 rfl ?_
  refine g_iconst C dX4_otherEndOf_1 (v := 2) (by decide) ?_
  refine g_iload_n C 1 dX4_otherEndOf_2 rfl ?_
  refine g_iconst C dX4_otherEndOf_3 (v := 5) (by decide) ?_
  refine g_imul C dX4_otherEndOf_4 ?_
  refine g_iadd C dX4_otherEndOf_5 ?_
  refine g_iconst C dX4_otherEndOf_6 (v := 2) (by decide) ?_
  refine g_iadd C dX4_otherEndOf_7 ?_
  obtain ⟨r2, h1, hf⟩ := o_bind hf
  refine g_callV C 1 (c_X4_digitAt l E h1) cls_4 k_X4_34 ⟨rfl, rfl, Nat.le_of_ble_eq_true rfl, Nat.le_of_ble_eq_true rfl⟩ (by decide) rfl rfl (Nat.le_of_ble_eq_true rfl) dX4_otherEndOf_8 _ rfl ?_
  exact g_iretR C hR hf dX4_otherEndOf_11
abbrev rm_X4_tonicOf : Room := { frames := 2, cells := 0, slots := 0, locals := 43 }
set_option maxRecDepth 100000 in
set_option maxHeartbeats 4000000 in
theorem c_X4_tonicOf (l : Launch) (E : EV) {σ : ST} {p0 : Int32} {rr : Int32} (hf : f_X4_tonicOf σ p0 = some rr) : CT l E yX4_tonicOf cX4_tonicOf 2 (some .int) rm_X4_tonicOf [.ref (E.2.1 1), .int p0] σ (some (.int rr)) σ := by
  refine CT.of RX4 rfl (by decide) (Nat.le_of_ble_eq_true rfl) rfl rfl (fun Γ C hR => ?_)
  show GW Γ 2 E σ 0 [(0, .ref (E.2.1 1)), (1, .int p0)] []
  rw [f_X4_tonicOf] at hf
  refine g_aload_n C 0 dX4_tonicOf_0 rfl ?_
  refine g_iconst C dX4_tonicOf_1 (v := 2) (by decide) ?_
  refine g_iload_n C 1 dX4_tonicOf_2 rfl ?_
  refine g_iconst C dX4_tonicOf_3 (v := 5) (by decide) ?_
  refine g_imul C dX4_tonicOf_4 ?_
  refine g_iadd C dX4_tonicOf_5 ?_
  refine g_iconst C dX4_tonicOf_6 (v := 3) (by decide) ?_
  refine g_iadd C dX4_tonicOf_7 ?_
  obtain ⟨r2, h1, hf⟩ := o_bind hf
  refine g_callV C 1 (c_X4_noteAt l E h1) cls_4 k_X4_37 ⟨rfl, rfl, Nat.le_of_ble_eq_true rfl, Nat.le_of_ble_eq_true rfl⟩ (by decide) rfl rfl (Nat.le_of_ble_eq_true rfl) dX4_tonicOf_8 _ rfl ?_
  exact g_iretR C hR hf dX4_tonicOf_11
abbrev rm_X4_asTune : Room := { frames := 2, cells := 0, slots := 0, locals := 43 }
set_option maxRecDepth 100000 in
set_option maxHeartbeats 4000000 in
theorem t_X4_asTune_L23 {Γ : CX} {l : Launch} {E : EV} {σ : ST} {rr : Int64} (C : FX Γ l cX4_asTune 5 RX4 rm_X4_asTune E) (hR : RT Γ (some .long) E (some (.long rr)) σ) : ∀ (n : Nat) (v1 : Int64) (v3 : Int32), f_X4_asTune_L23 σ n v1 v3 = some rr → GW Γ 5 E σ 23 [(0, .ref (E.2.1 1)), (1, .long v1), (3, .int v3)] [] := by
  intro n
  induction n with
  | zero => intro v1 v3 hf; exact nomatch hf
  | succ n ih =>
    intro v1 v3 hf
    rw [f_X4_asTune_L23] at hf
    refine g_iload_n C 2 dX4_asTune_23 rfl ?_
    refine g_aload_n C 0 dX4_asTune_24 rfl ?_
    refine fg_X4_15_1 C dX4_asTune_25 ?_
    refine g_icmp_ge (tgt := 60) C dX4_asTune_28 (by decide) (fun c3 => ?_) (fun c3 => ?_)
    · rw [if_pos c3] at hf
      refine g_lload_n C 1 dX4_asTune_60 rfl ?_
      exact g_lretR C hR hf dX4_asTune_61
    · rw [if_neg c3] at hf
      refine g_aload_n C 0 dX4_asTune_31 rfl ?_
      refine g_iload_n C 2 dX4_asTune_32 rfl ?_
      obtain ⟨r5, h4, hf⟩ := o_bind hf
      refine g_callV C 1 (c_X4_noteAt l E h4) cls_4 k_X4_37 ⟨rfl, rfl, Nat.le_of_ble_eq_true rfl, Nat.le_of_ble_eq_true rfl⟩ (by decide) rfl rfl (Nat.le_of_ble_eq_true rfl) dX4_asTune_33 _ rfl ?_
      refine g_istore C dX4_asTune_36 (by decide) [(4, .int r5), (0, .ref (E.2.1 1)), (1, .long v1), (3, .int v3)] rfl ?_
      refine g_iload C 0 dX4_asTune_38 rfl ?_
      refine g_iconst C dX4_asTune_40 (v := (-1)) (by decide) ?_
      refine g_icmp_ne (tgt := 46) C dX4_asTune_41 (by decide) (fun c6 => ?_) (fun c6 => ?_)
      · rw [if_neg c6] at hf
        refine g_lload_n C 2 dX4_asTune_46 rfl ?_
        refine g_iload_n C 3 dX4_asTune_47 rfl ?_
        refine g_iload C 0 dX4_asTune_48 rfl ?_
        obtain ⟨r8, h7, hf⟩ := o_bind hf
        refine g_callS C (c_X8_with l E h7) k_X4_40 ⟨rfl, rfl, Nat.le_of_ble_eq_true rfl, Nat.le_of_ble_eq_true rfl⟩ rfl (Nat.le_of_ble_eq_true rfl) dX4_asTune_50 _ rfl ?_
        refine g_lstore_n C dX4_asTune_53 (by decide) [(1, .long r8), (4, .int r5), (0, .ref (E.2.1 1)), (3, .int v3)] rfl ?_
        obtain ⟨x9, hx9, hf⟩ := o_let hf
        refine g_iinc C 3 dX4_asTune_54 rfl hx9 (by decide) [(3, .int x9), (1, .long r8), (4, .int r5), (0, .ref (E.2.1 1))] rfl ?_
        refine g_goto (tgt := 23) C dX4_asTune_57 (by decide) ?_
        exact g_lv [(0, .ref (E.2.1 1)), (1, .long r8), (3, .int x9)] [3, 1, 0] rfl (ih r8 x9 hf)
      · rw [if_pos c6] at hf
        refine g_lconst C dX4_asTune_44 (v := 0) (by decide) ?_
        exact g_lretR C hR hf dX4_asTune_45
set_option maxRecDepth 100000 in
set_option maxHeartbeats 4000000 in
theorem c_X4_asTune (l : Launch) (E : EV) {σ : ST} {rr : Int64} (hf : f_X4_asTune σ = some rr) : CT l E yX4_asTune cX4_asTune 5 (some .long) rm_X4_asTune [.ref (E.2.1 1)] σ (some (.long rr)) σ := by
  refine CT.of RX4 rfl (by decide) (Nat.le_of_ble_eq_true rfl) rfl rfl (fun Γ C hR => ?_)
  show GW Γ 5 E σ 0 [(0, .ref (E.2.1 1))] []
  rw [f_X4_asTune] at hf
  refine g_aload_n C 0 dX4_asTune_0 rfl ?_
  refine fg_X4_15_1 C dX4_asTune_1 ?_
  refine g_iconst C dX4_asTune_4 (v := 1) (by decide) ?_
  refine g_icmp_lt (tgt := 17) C dX4_asTune_5 (by decide) (fun c1 => ?_) (fun c1 => ?_)
  · rw [if_pos c1] at hf
    refine g_lconst C dX4_asTune_17 (v := 0) (by decide) ?_
    exact g_lretR C hR hf dX4_asTune_18
  · rw [if_neg c1] at hf
    refine g_aload_n C 0 dX4_asTune_8 rfl ?_
    refine fg_X4_15_1 C dX4_asTune_9 ?_
    refine g_bipush C dX4_asTune_12 (v := 8) (by decide) ?_
    refine g_icmp_le (tgt := 19) C dX4_asTune_14 (by decide) (fun c2 => ?_) (fun c2 => ?_)
    · rw [if_pos c2] at hf
      refine g_lconst C dX4_asTune_19 (v := 0) (by decide) ?_
      refine g_lstore_n C dX4_asTune_20 (by decide) [(1, .long 0), (0, .ref (E.2.1 1))] rfl ?_
      refine g_iconst C dX4_asTune_21 (v := 0) (by decide) ?_
      refine g_istore_n C dX4_asTune_22 (by decide) [(3, .int 0), (1, .long 0), (0, .ref (E.2.1 1))] rfl ?_
      exact g_lv [(0, .ref (E.2.1 1)), (1, .long 0), (3, .int 0)] [2, 1, 0] rfl (t_X4_asTune_L23 C hR fuel 0 0 hf)
    · rw [if_neg c2] at hf
      refine g_lconst C dX4_asTune_17 (v := 0) (by decide) ?_
      exact g_lretR C hR hf dX4_asTune_18
abbrev rm_X4_streets : Room := { frames := 0, cells := 0, slots := 0, locals := 0 }
set_option maxRecDepth 100000 in
set_option maxHeartbeats 4000000 in
theorem c_X4_streets (l : Launch) (E : EV) {σ : ST} {rr : Int32} (hf : f_X4_streets σ = some rr) : CT l E yX4_streets cX4_streets 1 (some .int) rm_X4_streets [.ref (E.2.1 1)] σ (some (.int rr)) σ := by
  refine CT.of RX4 rfl (by decide) (Nat.le_of_ble_eq_true rfl) rfl rfl (fun Γ C hR => ?_)
  show GW Γ 1 E σ 0 [(0, .ref (E.2.1 1))] []
  rw [f_X4_streets] at hf
  refine g_aload_n C 0 dX4_streets_0 rfl ?_
  refine fg_X4_15_1 C dX4_streets_1 ?_
  refine g_iconst C dX4_streets_4 (v := 1) (by decide) ?_
  refine g_iadd C dX4_streets_5 ?_
  refine g_iconst C dX4_streets_6 (v := 2) (by decide) ?_
  refine g_isub C dX4_streets_7 ?_
  refine g_iconst C dX4_streets_8 (v := 5) (by decide) ?_
  refine g_idiv C dX4_streets_9 (by decide) ?_
  exact g_iretR C hR hf dX4_streets_10
abbrev rm_X4_isCorner : Room := { frames := 2, cells := 0, slots := 0, locals := 42 }
set_option maxRecDepth 100000 in
set_option maxHeartbeats 4000000 in
theorem c_X4_isCorner (l : Launch) (E : EV) {σ : ST} {p0 : Int32} {rr : Int32} (hf : f_X4_isCorner σ p0 = some rr) : CT l E yX4_isCorner cX4_isCorner 2 (some .boolean) rm_X4_isCorner [.ref (E.2.1 1), .int p0] σ (some (.int rr)) σ := by
  refine CT.of RX4 rfl (by decide) (Nat.le_of_ble_eq_true rfl) rfl rfl (fun Γ C hR => ?_)
  show GW Γ 2 E σ 0 [(0, .ref (E.2.1 1)), (1, .int p0)] []
  rw [f_X4_isCorner] at hf
  refine g_iload_n C 1 dX4_isCorner_0 rfl ?_
  refine g_if_lt (y := 0) (tgt := 17) C dX4_isCorner_1 (by decide) (fun c1 => ?_) (fun c1 => ?_)
  · rw [if_pos c1] at hf
    refine g_iconst C dX4_isCorner_17 (v := 0) (by decide) ?_
    exact g_zretR C hR hf (by decide) dX4_isCorner_18
  · rw [if_neg c1] at hf
    refine g_iload_n C 1 dX4_isCorner_4 rfl ?_
    refine g_aload_n C 0 dX4_isCorner_5 rfl ?_
    refine g_iconst C dX4_isCorner_6 (v := 0) (by decide) ?_
    obtain ⟨r3, h2, hf⟩ := o_bind hf
    refine g_callV C 1 (c_X4_digitAt l E h2) cls_4 k_X4_34 ⟨rfl, rfl, Nat.le_of_ble_eq_true rfl, Nat.le_of_ble_eq_true rfl⟩ (by decide) rfl rfl (Nat.le_of_ble_eq_true rfl) dX4_isCorner_7 _ rfl ?_
    refine g_icmp_ge (tgt := 17) C dX4_isCorner_10 (by decide) (fun c4 => ?_) (fun c4 => ?_)
    · rw [if_pos c4] at hf
      refine g_iconst C dX4_isCorner_17 (v := 0) (by decide) ?_
      exact g_zretR C hR hf (by decide) dX4_isCorner_18
    · rw [if_neg c4] at hf
      refine g_iconst C dX4_isCorner_13 (v := 1) (by decide) ?_
      refine g_goto (tgt := 18) C dX4_isCorner_14 (by decide) ?_
      exact g_zretR C hR hf (by decide) dX4_isCorner_18
abbrev rm_X4_belongs : Room := { frames := 4, cells := 0, slots := 0, locals := 91 }
set_option maxRecDepth 100000 in
set_option maxHeartbeats 4000000 in
theorem c_X4_belongs (l : Launch) (E : EV) {σ : ST} {p0 : Int32} {rr : Int32} (hf : f_X4_belongs σ p0 = some rr) : CT l E yX4_belongs cX4_belongs 2 (some .boolean) rm_X4_belongs [.ref (E.2.1 1), .int p0] σ (some (.int rr)) σ := by
  refine CT.of RX4 rfl (by decide) (Nat.le_of_ble_eq_true rfl) rfl rfl (fun Γ C hR => ?_)
  show GW Γ 2 E σ 0 [(0, .ref (E.2.1 1)), (1, .int p0)] []
  rw [f_X4_belongs] at hf
  refine g_iload_n C 1 dX4_belongs_0 rfl ?_
  refine g_if_ne (y := 0) (tgt := 28) C dX4_belongs_1 (by decide) (fun c1 => ?_) (fun c1 => ?_)
  · rw [if_neg c1] at hf
    refine g_iload_n C 1 dX4_belongs_28 rfl ?_
    refine g_iconst C dX4_belongs_29 (v := 1) (by decide) ?_
    refine g_icmp_ne (tgt := 49) C dX4_belongs_30 (by decide) (fun c2 => ?_) (fun c2 => ?_)
    · rw [if_neg c2] at hf
      refine g_iload_n C 1 dX4_belongs_49 rfl ?_
      refine g_bipush C dX4_belongs_50 (v := 41) (by decide) ?_
      refine g_icmp_lt (tgt := 57) C dX4_belongs_52 (by decide) (fun c3 => ?_) (fun c3 => ?_)
      · rw [if_pos c3] at hf
        refine g_iload_n C 1 dX4_belongs_57 rfl ?_
        refine g_iconst C dX4_belongs_58 (v := 2) (by decide) ?_
        refine g_isub C dX4_belongs_59 ?_
        refine g_iconst C dX4_belongs_60 (v := 5) (by decide) ?_
        refine g_irem C dX4_belongs_61 (by decide) ?_
        by_cases c4 : (j_rem (p0 - 2) 5) = 0
        · rw [if_pos c4] at hf
          refine g_tabIn C 0 (tgt := 92) dX4_belongs_62 c4 (by decide) (by decide) rfl (by decide) ?_
          refine g_ldcS C dX4_belongs_92 ?_
          refine g_aload_n C 0 dX4_belongs_94 rfl ?_
          refine g_iload_n C 1 dX4_belongs_95 rfl ?_
          obtain ⟨r6, h5, hf⟩ := o_bind hf
          refine g_callV C 1 (c_X4_at l E h5) cls_4 k_X4_19 ⟨rfl, rfl, Nat.le_of_ble_eq_true rfl, Nat.le_of_ble_eq_true rfl⟩ (by decide) rfl rfl (Nat.le_of_ble_eq_true rfl) dX4_belongs_96 _ rfl ?_
          refine g_i2c C dX4_belongs_99 ?_
          obtain ⟨r8, h7, hf⟩ := o_bind hf
          refine g_callVS C (c_J0_indexOf_0f7a4 l E h7) k_X4_29 ⟨rfl, rfl, Nat.le_of_ble_eq_true rfl, Nat.le_of_ble_eq_true rfl⟩ rfl (Nat.le_of_ble_eq_true rfl) dX4_belongs_100 _ rfl ?_
          refine g_if_lt (y := 0) (tgt := 110) C dX4_belongs_103 (by decide) (fun c9 => ?_) (fun c9 => ?_)
          · rw [if_pos c9] at hf
            refine g_iconst C dX4_belongs_110 (v := 0) (by decide) ?_
            exact g_zretR C hR hf (by decide) dX4_belongs_111
          · rw [if_neg c9] at hf
            refine g_iconst C dX4_belongs_106 (v := 1) (by decide) ?_
            refine g_goto (tgt := 111) C dX4_belongs_107 (by decide) ?_
            exact g_zretR C hR hf (by decide) dX4_belongs_111
        rw [if_neg c4] at hf
        by_cases c10 : (j_rem (p0 - 2) 5) = 1
        · rw [if_pos c10] at hf
          refine g_tabIn C 1 (tgt := 112) dX4_belongs_62 c10 (by decide) (by decide) rfl (by decide) ?_
          refine g_aload_n C 0 dX4_belongs_112 rfl ?_
          refine g_aload_n C 0 dX4_belongs_113 rfl ?_
          refine g_iload_n C 1 dX4_belongs_114 rfl ?_
          obtain ⟨r12, h11, hf⟩ := o_bind hf
          refine g_callV C 1 (c_X4_digitAt l E h11) cls_4 k_X4_34 ⟨rfl, rfl, Nat.le_of_ble_eq_true rfl, Nat.le_of_ble_eq_true rfl⟩ (by decide) rfl rfl (Nat.le_of_ble_eq_true rfl) dX4_belongs_115 _ rfl ?_
          obtain ⟨r14, h13, hf⟩ := o_bind hf
          refine g_callV C 1 (c_X4_isCorner l E h13) cls_4 k_X4_53 ⟨rfl, rfl, Nat.le_of_ble_eq_true rfl, Nat.le_of_ble_eq_true rfl⟩ (by decide) rfl rfl (Nat.le_of_ble_eq_true rfl) dX4_belongs_118 _ rfl ?_
          obtain ⟨hz, hf⟩ := o_if hf
          exact g_zretR C hR hf hz dX4_belongs_121
        rw [if_neg c10] at hf
        by_cases c15 : (j_rem (p0 - 2) 5) = 2
        · rw [if_pos c15] at hf
          refine g_tabIn C 2 (tgt := 122) dX4_belongs_62 c15 (by decide) (by decide) rfl (by decide) ?_
          refine g_aload_n C 0 dX4_belongs_122 rfl ?_
          refine g_aload_n C 0 dX4_belongs_123 rfl ?_
          refine g_iload_n C 1 dX4_belongs_124 rfl ?_
          obtain ⟨r17, h16, hf⟩ := o_bind hf
          refine g_callV C 1 (c_X4_digitAt l E h16) cls_4 k_X4_34 ⟨rfl, rfl, Nat.le_of_ble_eq_true rfl, Nat.le_of_ble_eq_true rfl⟩ (by decide) rfl rfl (Nat.le_of_ble_eq_true rfl) dX4_belongs_125 _ rfl ?_
          obtain ⟨r19, h18, hf⟩ := o_bind hf
          refine g_callV C 1 (c_X4_isCorner l E h18) cls_4 k_X4_53 ⟨rfl, rfl, Nat.le_of_ble_eq_true rfl, Nat.le_of_ble_eq_true rfl⟩ (by decide) rfl rfl (Nat.le_of_ble_eq_true rfl) dX4_belongs_128 _ rfl ?_
          refine g_if_eq (y := 0) (tgt := 153) C dX4_belongs_131 (by decide) (fun c20 => ?_) (fun c20 => ?_)
          · rw [if_pos c20] at hf
            refine g_iconst C dX4_belongs_153 (v := 0) (by decide) ?_
            exact g_zretR C hR hf (by decide) dX4_belongs_154
          · rw [if_neg c20] at hf
            refine g_aload_n C 0 dX4_belongs_134 rfl ?_
            refine g_iload_n C 1 dX4_belongs_135 rfl ?_
            obtain ⟨r22, h21, hf⟩ := o_bind hf
            refine g_callV C 1 (c_X4_digitAt l E h21) cls_4 k_X4_34 ⟨rfl, rfl, Nat.le_of_ble_eq_true rfl, Nat.le_of_ble_eq_true rfl⟩ (by decide) rfl rfl (Nat.le_of_ble_eq_true rfl) dX4_belongs_136 _ rfl ?_
            refine g_aload_n C 0 dX4_belongs_139 rfl ?_
            refine g_iload_n C 1 dX4_belongs_140 rfl ?_
            refine g_iconst C dX4_belongs_141 (v := 1) (by decide) ?_
            refine g_isub C dX4_belongs_142 ?_
            obtain ⟨r24, h23, hf⟩ := o_bind hf
            refine g_callV C 1 (c_X4_digitAt l E h23) cls_4 k_X4_34 ⟨rfl, rfl, Nat.le_of_ble_eq_true rfl, Nat.le_of_ble_eq_true rfl⟩ (by decide) rfl rfl (Nat.le_of_ble_eq_true rfl) dX4_belongs_143 _ rfl ?_
            refine g_icmp_eq (tgt := 153) C dX4_belongs_146 (by decide) (fun c25 => ?_) (fun c25 => ?_)
            · rw [if_pos c25] at hf
              refine g_iconst C dX4_belongs_153 (v := 0) (by decide) ?_
              exact g_zretR C hR hf (by decide) dX4_belongs_154
            · rw [if_neg c25] at hf
              refine g_iconst C dX4_belongs_149 (v := 1) (by decide) ?_
              refine g_goto (tgt := 154) C dX4_belongs_150 (by decide) ?_
              exact g_zretR C hR hf (by decide) dX4_belongs_154
        rw [if_neg c15] at hf
        by_cases c26 : (j_rem (p0 - 2) 5) = 3
        · rw [if_pos c26] at hf
          refine g_tabIn C 3 (tgt := 155) dX4_belongs_62 c26 (by decide) (by decide) rfl (by decide) ?_
          refine g_aload_n C 0 dX4_belongs_155 rfl ?_
          refine g_iload_n C 1 dX4_belongs_156 rfl ?_
          obtain ⟨r28, h27, hf⟩ := o_bind hf
          refine g_callV C 1 (c_X4_noteAt l E h27) cls_4 k_X4_37 ⟨rfl, rfl, Nat.le_of_ble_eq_true rfl, Nat.le_of_ble_eq_true rfl⟩ (by decide) rfl rfl (Nat.le_of_ble_eq_true rfl) dX4_belongs_157 _ rfl ?_
          refine g_iconst C dX4_belongs_160 (v := (-1)) (by decide) ?_
          refine g_icmp_eq (tgt := 168) C dX4_belongs_161 (by decide) (fun c29 => ?_) (fun c29 => ?_)
          · rw [if_pos c29] at hf
            refine g_iconst C dX4_belongs_168 (v := 0) (by decide) ?_
            exact g_zretR C hR hf (by decide) dX4_belongs_169
          · rw [if_neg c29] at hf
            refine g_iconst C dX4_belongs_164 (v := 1) (by decide) ?_
            refine g_goto (tgt := 169) C dX4_belongs_165 (by decide) ?_
            exact g_zretR C hR hf (by decide) dX4_belongs_169
        rw [if_neg c26] at hf
        refine g_tabOut (tgt := 170) C dX4_belongs_62 (by have qc4 := lv_neT c4 (show (0 : Int32).toInt = 0 by decide); have qc10 := lv_neT c10 (show (1 : Int32).toInt = 1 by decide); have qc15 := lv_neT c15 (show (2 : Int32).toInt = 2 by decide); have qc26 := lv_neT c26 (show (3 : Int32).toInt = 3 by decide); omega) (by decide) ?_
        refine g_aload_n C 0 dX4_belongs_170 rfl ?_
        refine g_iload_n C 1 dX4_belongs_171 rfl ?_
        obtain ⟨r31, h30, hf⟩ := o_bind hf
        refine g_callV C 1 (c_X4_at l E h30) cls_4 k_X4_19 ⟨rfl, rfl, Nat.le_of_ble_eq_true rfl, Nat.le_of_ble_eq_true rfl⟩ (by decide) rfl rfl (Nat.le_of_ble_eq_true rfl) dX4_belongs_172 _ rfl ?_
        refine g_bipush C dX4_belongs_175 (v := 44) (by decide) ?_
        refine g_icmp_ne (tgt := 184) C dX4_belongs_177 (by decide) (fun c32 => ?_) (fun c32 => ?_)
        · rw [if_neg c32] at hf
          refine g_iconst C dX4_belongs_184 (v := 0) (by decide) ?_
          exact g_zretR C hR hf (by decide) dX4_belongs_185
        · rw [if_pos c32] at hf
          refine g_iconst C dX4_belongs_180 (v := 1) (by decide) ?_
          refine g_goto (tgt := 185) C dX4_belongs_181 (by decide) ?_
          exact g_zretR C hR hf (by decide) dX4_belongs_185
      · rw [if_neg c3] at hf
        refine g_iconst C dX4_belongs_55 (v := 0) (by decide) ?_
        exact g_zretR C hR hf (by decide) dX4_belongs_56
    · rw [if_pos c2] at hf
      refine g_aload_n C 0 dX4_belongs_33 rfl ?_
      refine g_iconst C dX4_belongs_34 (v := 1) (by decide) ?_
      obtain ⟨r34, h33, hf⟩ := o_bind hf
      refine g_callV C 1 (c_X4_at l E h33) cls_4 k_X4_19 ⟨rfl, rfl, Nat.le_of_ble_eq_true rfl, Nat.le_of_ble_eq_true rfl⟩ (by decide) rfl rfl (Nat.le_of_ble_eq_true rfl) dX4_belongs_35 _ rfl ?_
      refine g_bipush C dX4_belongs_38 (v := 59) (by decide) ?_
      refine g_icmp_ne (tgt := 47) C dX4_belongs_40 (by decide) (fun c35 => ?_) (fun c35 => ?_)
      · rw [if_neg c35] at hf
        refine g_iconst C dX4_belongs_47 (v := 0) (by decide) ?_
        exact g_zretR C hR hf (by decide) dX4_belongs_48
      · rw [if_pos c35] at hf
        refine g_iconst C dX4_belongs_43 (v := 1) (by decide) ?_
        refine g_goto (tgt := 48) C dX4_belongs_44 (by decide) ?_
        exact g_zretR C hR hf (by decide) dX4_belongs_48
  · rw [if_pos c1] at hf
    refine g_aload_n C 0 dX4_belongs_4 rfl ?_
    refine g_iconst C dX4_belongs_5 (v := 0) (by decide) ?_
    obtain ⟨r37, h36, hf⟩ := o_bind hf
    refine g_callV C 1 (c_X4_digitAt l E h36) cls_4 k_X4_34 ⟨rfl, rfl, Nat.le_of_ble_eq_true rfl, Nat.le_of_ble_eq_true rfl⟩ (by decide) rfl rfl (Nat.le_of_ble_eq_true rfl) dX4_belongs_6 _ rfl ?_
    refine g_iconst C dX4_belongs_9 (v := 2) (by decide) ?_
    refine g_icmp_lt (tgt := 26) C dX4_belongs_10 (by decide) (fun c38 => ?_) (fun c38 => ?_)
    · rw [if_pos c38] at hf
      refine g_iconst C dX4_belongs_26 (v := 0) (by decide) ?_
      exact g_zretR C hR hf (by decide) dX4_belongs_27
    · rw [if_neg c38] at hf
      refine g_aload_n C 0 dX4_belongs_13 rfl ?_
      refine g_iconst C dX4_belongs_14 (v := 0) (by decide) ?_
      obtain ⟨r40, h39, hf⟩ := o_bind hf
      refine g_callV C 1 (c_X4_digitAt l E h39) cls_4 k_X4_34 ⟨rfl, rfl, Nat.le_of_ble_eq_true rfl, Nat.le_of_ble_eq_true rfl⟩ (by decide) rfl rfl (Nat.le_of_ble_eq_true rfl) dX4_belongs_15 _ rfl ?_
      refine g_iconst C dX4_belongs_18 (v := 5) (by decide) ?_
      refine g_icmp_gt (tgt := 26) C dX4_belongs_19 (by decide) (fun c41 => ?_) (fun c41 => ?_)
      · rw [if_pos c41] at hf
        refine g_iconst C dX4_belongs_26 (v := 0) (by decide) ?_
        exact g_zretR C hR hf (by decide) dX4_belongs_27
      · rw [if_neg c41] at hf
        refine g_iconst C dX4_belongs_22 (v := 1) (by decide) ?_
        refine g_goto (tgt := 27) C dX4_belongs_23 (by decide) ?_
        exact g_zretR C hR hf (by decide) dX4_belongs_27
abbrev rm_X4_firstFault : Room := { frames := 5, cells := 0, slots := 0, locals := 112 }
set_option maxRecDepth 100000 in
set_option maxHeartbeats 4000000 in
theorem t_X4_firstFault_L2 {Γ : CX} {l : Launch} {E : EV} {σ : ST} {rr : Int32} (C : FX Γ l cX4_firstFault 2 RX4 rm_X4_firstFault E) (hR : RT Γ (some .int) E (some (.int rr)) σ) : ∀ (n : Nat) (v1 : Int32), f_X4_firstFault_L2 σ n v1 = some rr → GW Γ 2 E σ 2 [(0, .ref (E.2.1 1)), (1, .int v1)] [] := by
  intro n
  induction n with
  | zero => intro v1 hf; exact nomatch hf
  | succ n ih =>
    intro v1 hf
    rw [f_X4_firstFault_L2] at hf
    refine g_iload_n C 1 dX4_firstFault_2 rfl ?_
    refine g_aload_n C 0 dX4_firstFault_3 rfl ?_
    refine fg_X4_15_1 C dX4_firstFault_4 ?_
    refine g_icmp_ge (tgt := 26) C dX4_firstFault_7 (by decide) (fun c1 => ?_) (fun c1 => ?_)
    · rw [if_pos c1] at hf
      refine g_aload_n C 0 dX4_firstFault_26 rfl ?_
      refine fg_X4_15_1 C dX4_firstFault_27 ?_
      exact g_iretR C hR hf dX4_firstFault_30
    · rw [if_neg c1] at hf
      refine g_aload_n C 0 dX4_firstFault_10 rfl ?_
      refine g_iload_n C 1 dX4_firstFault_11 rfl ?_
      obtain ⟨r3, h2, hf⟩ := o_bind hf
      refine g_callV C 1 (c_X4_belongs l E h2) cls_4 k_X4_50 ⟨rfl, rfl, Nat.le_of_ble_eq_true rfl, Nat.le_of_ble_eq_true rfl⟩ (by decide) rfl rfl (Nat.le_of_ble_eq_true rfl) dX4_firstFault_12 _ rfl ?_
      refine g_if_ne (y := 0) (tgt := 20) C dX4_firstFault_15 (by decide) (fun c4 => ?_) (fun c4 => ?_)
      · rw [if_neg c4] at hf
        obtain ⟨x5, hx5, hf⟩ := o_let hf
        refine g_iinc C 1 dX4_firstFault_20 rfl hx5 (by decide) [(1, .int x5), (0, .ref (E.2.1 1))] rfl ?_
        refine g_goto (tgt := 2) C dX4_firstFault_23 (by decide) ?_
        exact g_lv [(0, .ref (E.2.1 1)), (1, .int x5)] [1, 0] rfl (ih x5 hf)
      · rw [if_pos c4] at hf
        refine g_iload_n C 1 dX4_firstFault_18 rfl ?_
        exact g_iretR C hR hf dX4_firstFault_19
set_option maxRecDepth 100000 in
set_option maxHeartbeats 4000000 in
theorem c_X4_firstFault (l : Launch) (E : EV) {σ : ST} {rr : Int32} (hf : f_X4_firstFault σ = some rr) : CT l E yX4_firstFault cX4_firstFault 2 (some .int) rm_X4_firstFault [.ref (E.2.1 1)] σ (some (.int rr)) σ := by
  refine CT.of RX4 rfl (by decide) (Nat.le_of_ble_eq_true rfl) rfl rfl (fun Γ C hR => ?_)
  show GW Γ 2 E σ 0 [(0, .ref (E.2.1 1))] []
  rw [f_X4_firstFault] at hf
  refine g_iconst C dX4_firstFault_0 (v := 0) (by decide) ?_
  refine g_istore_n C dX4_firstFault_1 (by decide) [(1, .int 0), (0, .ref (E.2.1 1))] rfl ?_
  exact g_lv [(0, .ref (E.2.1 1)), (1, .int 0)] [1, 0] rfl (t_X4_firstFault_L2 C hR fuel 0 hf)
abbrev rm_X4_isCity : Room := { frames := 6, cells := 0, slots := 0, locals := 133 }
set_option maxRecDepth 100000 in
set_option maxHeartbeats 4000000 in
theorem t_X4_isCity_B18 {Γ : CX} {l : Launch} {E : EV} {σ : ST} {rr : Int32} (C : FX Γ l cX4_isCity 2 RX4 rm_X4_isCity E) (hR : RT Γ (some .boolean) E (some (.int rr)) σ) (s0 : Int32) (hf : f_X4_isCity_B18 σ s0 = some rr) : GW Γ 2 E σ 18 [(0, .ref (E.2.1 1))] [.int s0] := by
  rw [f_X4_isCity_B18] at hf
  refine g_istore_n C dX4_isCity_18 (by decide) [(1, .int s0), (0, .ref (E.2.1 1))] rfl ?_
  refine g_aload_n C 1 dX4_isCity_19 rfl ?_
  refine fg_X4_15_1 C dX4_isCity_20 ?_
  refine g_bipush C dX4_isCity_23 (v := 11) (by decide) ?_
  refine g_icmp_lt (tgt := 47) C dX4_isCity_25 (by decide) (fun c3 => ?_) (fun c3 => ?_)
  · rw [if_pos c3] at hf
    refine g_iconst C dX4_isCity_47 (v := 0) (by decide) ?_
    exact g_zretR C hR hf (by decide) dX4_isCity_48
  · rw [if_neg c3] at hf
    refine g_iload_n C 0 dX4_isCity_28 rfl ?_
    refine g_if_eq (y := 0) (tgt := 47) C dX4_isCity_29 (by decide) (fun c4 => ?_) (fun c4 => ?_)
    · rw [if_pos c4] at hf
      refine g_iconst C dX4_isCity_47 (v := 0) (by decide) ?_
      exact g_zretR C hR hf (by decide) dX4_isCity_48
    · rw [if_neg c4] at hf
      refine g_aload_n C 1 dX4_isCity_32 rfl ?_
      obtain ⟨r6, h5, hf⟩ := o_bind hf
      refine g_callV C 1 (c_X4_firstFault l E h5) cls_4 k_X4_46 ⟨rfl, rfl, Nat.le_of_ble_eq_true rfl, Nat.le_of_ble_eq_true rfl⟩ (by decide) rfl rfl (Nat.le_of_ble_eq_true rfl) dX4_isCity_33 _ rfl ?_
      refine g_aload_n C 1 dX4_isCity_36 rfl ?_
      refine fg_X4_15_1 C dX4_isCity_37 ?_
      refine g_icmp_ne (tgt := 47) C dX4_isCity_40 (by decide) (fun c7 => ?_) (fun c7 => ?_)
      · rw [if_neg c7] at hf
        refine g_iconst C dX4_isCity_47 (v := 0) (by decide) ?_
        exact g_zretR C hR hf (by decide) dX4_isCity_48
      · rw [if_pos c7] at hf
        refine g_iconst C dX4_isCity_43 (v := 1) (by decide) ?_
        refine g_goto (tgt := 48) C dX4_isCity_44 (by decide) ?_
        exact g_zretR C hR hf (by decide) dX4_isCity_48
set_option maxRecDepth 100000 in
set_option maxHeartbeats 4000000 in
theorem c_X4_isCity (l : Launch) (E : EV) {σ : ST} {rr : Int32} (hf : f_X4_isCity σ = some rr) : CT l E yX4_isCity cX4_isCity 2 (some .boolean) rm_X4_isCity [.ref (E.2.1 1)] σ (some (.int rr)) σ := by
  refine CT.of RX4 rfl (by decide) (Nat.le_of_ble_eq_true rfl) rfl rfl (fun Γ C hR => ?_)
  show GW Γ 2 E σ 0 [(0, .ref (E.2.1 1))] []
  rw [f_X4_isCity] at hf
  refine g_aload_n C 0 dX4_isCity_0 rfl ?_
  refine fg_X4_15_1 C dX4_isCity_1 ?_
  refine g_iconst C dX4_isCity_4 (v := 1) (by decide) ?_
  refine g_iadd C dX4_isCity_5 ?_
  refine g_iconst C dX4_isCity_6 (v := 2) (by decide) ?_
  refine g_isub C dX4_isCity_7 ?_
  refine g_iconst C dX4_isCity_8 (v := 5) (by decide) ?_
  refine g_irem C dX4_isCity_9 (by decide) ?_
  obtain ⟨x1, ex1, hf⟩ := o_let hf
  have Kx1 : GW Γ 2 E σ 18 [(0, .ref (E.2.1 1))] [.int x1] := by
    exact t_X4_isCity_B18 C hR x1 hf
  refine g_if_ne (y := 0) (tgt := 17) C dX4_isCity_10 (by decide) (fun c2 => ?_) (fun c2 => ?_)
  · rw [if_neg c2] at ex1
    refine g_iconst C dX4_isCity_17 (v := 0) (by decide) ?_
    rw [← ex1] at Kx1
    exact g_lv [(0, .ref (E.2.1 1))] [0] rfl Kx1
  · rw [if_pos c2] at ex1
    refine g_iconst C dX4_isCity_13 (v := 1) (by decide) ?_
    refine g_goto (tgt := 18) C dX4_isCity_14 (by decide) ?_
    rw [← ex1] at Kx1
    exact g_lv [(0, .ref (E.2.1 1))] [0] rfl Kx1
abbrev rm_X1_at : Room := { frames := 0, cells := 0, slots := 0, locals := 0 }
set_option maxRecDepth 100000 in
set_option maxHeartbeats 4000000 in
theorem c_X1_at (l : Launch) (E : EV) {σ : ST} {p0 : Int32} {rr : Option Nat} (hf : f_X1_at σ p0 = some rr) : CT l E yX1_at cX1_at 2 (some (.object "KeyStreets$Street")) rm_X1_at [.ref (E.2.1 4), .int p0] σ (some (va_rf rr)) σ := by
  refine CT.of RX1 rfl (by decide) (Nat.le_of_ble_eq_true rfl) rfl rfl (fun Γ C hR => ?_)
  show GW Γ 2 E σ 0 [(0, .ref (E.2.1 4)), (1, .int p0)] []
  rw [f_X1_at] at hf
  refine g_iload_n C 1 dX1_at_0 rfl ?_
  refine g_if_lt (y := 0) (tgt := 30) C dX1_at_1 (by decide) (fun c1 => ?_) (fun c1 => ?_)
  · rw [if_pos c1] at hf
    refine g_null C dX1_at_30 ?_
    exact g_aretR C hR hf dX1_at_31
  · rw [if_neg c1] at hf
    refine g_iload_n C 1 dX1_at_4 rfl ?_
    refine g_aload_n C 0 dX1_at_5 rfl ?_
    refine fg_X1_36_4 C dX1_at_6 ?_
    refine g_icmp_ge (tgt := 30) C dX1_at_9 (by decide) (fun c2 => ?_) (fun c2 => ?_)
    · rw [if_pos c2] at hf
      refine g_null C dX1_at_30 ?_
      exact g_aretR C hR hf dX1_at_31
    · rw [if_neg c2] at hf
      refine g_iload_n C 1 dX1_at_12 rfl ?_
      refine g_aload_n C 0 dX1_at_13 rfl ?_
      refine fg_X1_11_4 C dX1_at_14 ?_
      refine g_alen C 5 2 dX1_at_17 (by decide) rfl rfl (v := 8) rfl ?_
      refine g_icmp_ge (tgt := 30) C dX1_at_18 (by decide) (fun c3 => ?_) (fun c3 => ?_)
      · rw [if_pos c3] at hf
        refine g_null C dX1_at_30 ?_
        exact g_aretR C hR hf dX1_at_31
      · rw [if_neg c3] at hf
        refine g_aload_n C 0 dX1_at_21 rfl ?_
        refine fg_X1_11_4 C dX1_at_22 ?_
        refine g_iload_n C 1 dX1_at_25 rfl ?_
        obtain ⟨h4, hf⟩ := o_if hf
        refine g_aald C dX1_at_26 h4 ?_
        refine g_goto (tgt := 31) C dX1_at_27 (by decide) ?_
        exact g_aretR C hR hf dX1_at_31
abbrev rm_X1_from : Room := { frames := 1, cells := 0, slots := 0, locals := 21 }
set_option maxRecDepth 100000 in
set_option maxHeartbeats 4000000 in
theorem c_X1_from (l : Launch) (E : EV) {σ : ST} {p0 : Int32} {p1 : Int32} {rr : Option Nat} (hf : f_X1_from σ p0 p1 = some rr) : CT l E yX1_from cX1_from 4 (some (.object "KeyStreets$Street")) rm_X1_from [.ref (E.2.1 4), .int p0, .int p1] σ (some (va_rf rr)) σ := by
  refine CT.of RX1 rfl (by decide) (Nat.le_of_ble_eq_true rfl) rfl rfl (fun Γ C hR => ?_)
  show GW Γ 4 E σ 0 [(0, .ref (E.2.1 4)), (1, .int p0), (2, .int p1)] []
  rw [f_X1_from] at hf
  refine g_aload_n C 0 dX1_from_0 rfl ?_
  refine g_iload_n C 2 dX1_from_1 rfl ?_
  obtain ⟨r2, h1, hf⟩ := o_bind hf
  refine g_callV C 4 (c_X1_at l E h1) cls_1 k_X1_67 ⟨rfl, rfl, Nat.le_of_ble_eq_true rfl, Nat.le_of_ble_eq_true rfl⟩ (by decide) rfl rfl (Nat.le_of_ble_eq_true rfl) dX1_from_2 _ rfl ?_
  refine g_astoreq_n C dX1_from_5 (by decide) [(3, va_rf r2), (0, .ref (E.2.1 4)), (1, .int p0), (2, .int p1)] rfl ?_
  refine g_aloadq_n C 0 dX1_from_6 rfl ?_
  cases r2 with
  | none =>
    replace hf := o_el0 hf
    refine g_ifnullN C dX1_from_7 (tgt := 22) (by decide) ?_
    refine g_null C dX1_from_22 ?_
    exact g_aretR C hR hf dX1_from_23
  | some a3 =>
    replace hf := o_el1 hf
    refine g_ifnullR C dX1_from_7 ?_
    refine g_aload_n C 0 dX1_from_10 rfl ?_
    refine g_iload_n C 2 dX1_from_11 rfl ?_
    obtain ⟨h6, hf⟩ := o_if hf
    obtain ⟨r5, h4, hf⟩ := o_bind hf
    have Kr5 : GW Γ 4 E σ 15 [(3, .ref a3), (0, .ref (E.2.1 4)), (1, .int p0), (2, .int p1)] [.int r5] := by
      refine g_if_eq (y := 0) (tgt := 22) C dX1_from_15 (by decide) (fun c7 => ?_) (fun c7 => ?_)
      · rw [if_pos c7] at hf
        refine g_null C dX1_from_22 ?_
        exact g_aretR C hR hf dX1_from_23
      · rw [if_neg c7] at hf
        refine g_aload_n C 0 dX1_from_18 rfl ?_
        refine g_goto (tgt := 23) C dX1_from_19 (by decide) ?_
        exact g_aretR C hR hf dX1_from_23
    rcases h6.2 with hk | hk | hk | hk | hk
    · exact g_callU C (c_X7_endsAt l E a3 h6 h4) cls_0 h6.1 hk ku_X1_71_0 ⟨rfl, rfl, Nat.le_of_ble_eq_true rfl, Nat.le_of_ble_eq_true rfl⟩ rfl (Nat.le_of_ble_eq_true rfl) dX1_from_12 _ rfl Kr5
    · exact g_callU C (c_X7_endsAt l E a3 h6 h4) cls_2 h6.1 hk ku_X1_71_2 ⟨rfl, rfl, Nat.le_of_ble_eq_true rfl, Nat.le_of_ble_eq_true rfl⟩ rfl (Nat.le_of_ble_eq_true rfl) dX1_from_12 _ rfl Kr5
    · exact g_callU C (c_X7_endsAt l E a3 h6 h4) cls_5 h6.1 hk ku_X1_71_5 ⟨rfl, rfl, Nat.le_of_ble_eq_true rfl, Nat.le_of_ble_eq_true rfl⟩ rfl (Nat.le_of_ble_eq_true rfl) dX1_from_12 _ rfl Kr5
    · exact g_callU C (c_X7_endsAt l E a3 h6 h4) cls_6 h6.1 hk ku_X1_71_6 ⟨rfl, rfl, Nat.le_of_ble_eq_true rfl, Nat.le_of_ble_eq_true rfl⟩ rfl (Nat.le_of_ble_eq_true rfl) dX1_from_12 _ rfl Kr5
    · exact g_callU C (c_X7_endsAt l E a3 h6 h4) cls_7 h6.1 hk ku_X1_71_7 ⟨rfl, rfl, Nat.le_of_ble_eq_true rfl, Nat.le_of_ble_eq_true rfl⟩ rfl (Nat.le_of_ble_eq_true rfl) dX1_from_12 _ rfl Kr5
abbrev rm_X1_countAt : Room := { frames := 2, cells := 0, slots := 0, locals := 44 }
set_option maxRecDepth 100000 in
set_option maxHeartbeats 4000000 in
theorem t_X1_countAt_L4 {Γ : CX} {l : Launch} {E : EV} {σ : ST} {rr : Int32} (C : FX Γ l cX1_countAt 4 RX1 rm_X1_countAt E) (hR : RT Γ (some .int) E (some (.int rr)) σ) : ∀ (n : Nat) (v1 : Int32) (v2 : Int32) (v3 : Int32), f_X1_countAt_L4 σ n v1 v2 v3 = some rr → GW Γ 4 E σ 4 [(0, .ref (E.2.1 4)), (1, .int v1), (2, .int v2), (3, .int v3)] [] := by
  intro n
  induction n with
  | zero => intro v1 v2 v3 hf; exact nomatch hf
  | succ n ih =>
    intro v1 v2 v3 hf
    rw [f_X1_countAt_L4] at hf
    refine g_iload_n C 3 dX1_countAt_4 rfl ?_
    refine g_aload_n C 0 dX1_countAt_5 rfl ?_
    refine fg_X1_36_4 C dX1_countAt_6 ?_
    refine g_icmp_ge (tgt := 30) C dX1_countAt_9 (by decide) (fun c1 => ?_) (fun c1 => ?_)
    · rw [if_pos c1] at hf
      refine g_iload_n C 2 dX1_countAt_30 rfl ?_
      exact g_iretR C hR hf dX1_countAt_31
    · rw [if_neg c1] at hf
      refine g_aload_n C 0 dX1_countAt_12 rfl ?_
      refine g_iload_n C 1 dX1_countAt_13 rfl ?_
      refine g_iload_n C 3 dX1_countAt_14 rfl ?_
      obtain ⟨r3, h2, hf⟩ := o_bind hf
      refine g_callV C 4 (c_X1_from l E h2) cls_1 k_X1_75 ⟨rfl, rfl, Nat.le_of_ble_eq_true rfl, Nat.le_of_ble_eq_true rfl⟩ (by decide) rfl rfl (Nat.le_of_ble_eq_true rfl) dX1_countAt_15 _ rfl ?_
      obtain ⟨x4, ex4, hf⟩ := o_bind hf
      have Kx4 : GW Γ 4 E σ 24 [(0, .ref (E.2.1 4)), (1, .int v1), (2, .int x4), (3, .int v3)] [] := by
        obtain ⟨x7, hx7, hf⟩ := o_let hf
        refine g_iinc C 3 dX1_countAt_24 rfl hx7 (by decide) [(3, .int x7), (0, .ref (E.2.1 4)), (1, .int v1), (2, .int x4)] rfl ?_
        refine g_goto (tgt := 4) C dX1_countAt_27 (by decide) ?_
        exact g_lv [(0, .ref (E.2.1 4)), (1, .int v1), (2, .int x4), (3, .int x7)] [1, 2, 3, 0] rfl (ih v1 x4 x7 hf)
      cases r3 with
      | none =>
        replace ex4 := o_el0 ex4
        refine g_ifnullN C dX1_countAt_18 (tgt := 24) (by decide) ?_
        rw [← Option.some.inj ex4] at Kx4
        exact g_lv [(0, .ref (E.2.1 4)), (1, .int v1), (2, .int v2), (3, .int v3)] [0, 1, 2, 3] rfl Kx4
      | some a5 =>
        replace ex4 := o_el1 ex4
        refine g_ifnullR C dX1_countAt_18 ?_
        obtain ⟨x6, hx6, ex4⟩ := o_let ex4
        refine g_iinc C 2 dX1_countAt_21 rfl hx6 (by decide) [(2, .int x6), (0, .ref (E.2.1 4)), (1, .int v1), (3, .int v3)] rfl ?_
        rw [← Option.some.inj ex4] at Kx4
        exact g_lv [(0, .ref (E.2.1 4)), (1, .int v1), (2, .int x6), (3, .int v3)] [1, 2, 0, 3] rfl Kx4
set_option maxRecDepth 100000 in
set_option maxHeartbeats 4000000 in
theorem c_X1_countAt (l : Launch) (E : EV) {σ : ST} {p0 : Int32} {rr : Int32} (hf : f_X1_countAt σ p0 = some rr) : CT l E yX1_countAt cX1_countAt 4 (some .int) rm_X1_countAt [.ref (E.2.1 4), .int p0] σ (some (.int rr)) σ := by
  refine CT.of RX1 rfl (by decide) (Nat.le_of_ble_eq_true rfl) rfl rfl (fun Γ C hR => ?_)
  show GW Γ 4 E σ 0 [(0, .ref (E.2.1 4)), (1, .int p0)] []
  rw [f_X1_countAt] at hf
  refine g_iconst C dX1_countAt_0 (v := 0) (by decide) ?_
  refine g_istore_n C dX1_countAt_1 (by decide) [(2, .int 0), (0, .ref (E.2.1 4)), (1, .int p0)] rfl ?_
  refine g_iconst C dX1_countAt_2 (v := 0) (by decide) ?_
  refine g_istore_n C dX1_countAt_3 (by decide) [(3, .int 0), (2, .int 0), (0, .ref (E.2.1 4)), (1, .int p0)] rfl ?_
  exact g_lv [(0, .ref (E.2.1 4)), (1, .int p0), (2, .int 0), (3, .int 0)] [2, 3, 1, 0] rfl (t_X1_countAt_L4 C hR fuel p0 0 0 hf)
abbrev rm_X1_numberAt : Room := { frames := 2, cells := 0, slots := 0, locals := 44 }
set_option maxRecDepth 100000 in
set_option maxHeartbeats 4000000 in
theorem t_X1_numberAt_L5 {Γ : CX} {l : Launch} {E : EV} {σ : ST} {rr : Int32} (C : FX Γ l cX1_numberAt 5 RX1 rm_X1_numberAt E) (hR : RT Γ (some .int) E (some (.int rr)) σ) : ∀ (n : Nat) (v1 : Int32) (v2 : Int32) (v3 : Int32) (v4 : Int32), f_X1_numberAt_L5 σ n v1 v2 v3 v4 = some rr → GW Γ 5 E σ 5 [(0, .ref (E.2.1 4)), (1, .int v1), (2, .int v2), (3, .int v3), (4, .int v4)] [] := by
  intro n
  induction n with
  | zero => intro v1 v2 v3 v4 hf; exact nomatch hf
  | succ n ih =>
    intro v1 v2 v3 v4 hf
    rw [f_X1_numberAt_L5] at hf
    refine g_iload C 4 dX1_numberAt_5 rfl ?_
    refine g_aload_n C 0 dX1_numberAt_7 rfl ?_
    refine fg_X1_36_4 C dX1_numberAt_8 ?_
    refine g_icmp_ge (tgt := 41) C dX1_numberAt_11 (by decide) (fun c1 => ?_) (fun c1 => ?_)
    · rw [if_pos c1] at hf
      refine g_iconst C dX1_numberAt_41 (v := (-1)) (by decide) ?_
      exact g_iretR C hR hf dX1_numberAt_42
    · rw [if_neg c1] at hf
      refine g_aload_n C 0 dX1_numberAt_14 rfl ?_
      refine g_iload_n C 1 dX1_numberAt_15 rfl ?_
      refine g_iload C 4 dX1_numberAt_16 rfl ?_
      obtain ⟨r3, h2, hf⟩ := o_bind hf
      refine g_callV C 4 (c_X1_from l E h2) cls_1 k_X1_75 ⟨rfl, rfl, Nat.le_of_ble_eq_true rfl, Nat.le_of_ble_eq_true rfl⟩ (by decide) rfl rfl (Nat.le_of_ble_eq_true rfl) dX1_numberAt_18 _ rfl ?_
      cases r3 with
      | none =>
        replace hf := o_el0 hf
        refine g_ifnullN C dX1_numberAt_21 (tgt := 35) (by decide) ?_
        obtain ⟨x5, hx5, hf⟩ := o_let hf
        refine g_iinc C 4 dX1_numberAt_35 rfl hx5 (by decide) [(4, .int x5), (0, .ref (E.2.1 4)), (1, .int v1), (2, .int v2), (3, .int v3)] rfl ?_
        refine g_goto (tgt := 5) C dX1_numberAt_38 (by decide) ?_
        exact g_lv [(0, .ref (E.2.1 4)), (1, .int v1), (2, .int v2), (3, .int v3), (4, .int x5)] [1, 2, 3, 4, 0] rfl (ih v1 v2 v3 x5 hf)
      | some a4 =>
        replace hf := o_el1 hf
        refine g_ifnullR C dX1_numberAt_21 ?_
        refine g_iload_n C 3 dX1_numberAt_24 rfl ?_
        refine g_iload_n C 2 dX1_numberAt_25 rfl ?_
        refine g_icmp_ne (tgt := 32) C dX1_numberAt_26 (by decide) (fun c6 => ?_) (fun c6 => ?_)
        · rw [if_neg c6] at hf
          obtain ⟨x7, hx7, hf⟩ := o_let hf
          refine g_iinc C 3 dX1_numberAt_32 rfl hx7 (by decide) [(3, .int x7), (0, .ref (E.2.1 4)), (1, .int v1), (2, .int v2), (4, .int v4)] rfl ?_
          obtain ⟨x8, hx8, hf⟩ := o_let hf
          refine g_iinc C 4 dX1_numberAt_35 rfl hx8 (by decide) [(4, .int x8), (3, .int x7), (0, .ref (E.2.1 4)), (1, .int v1), (2, .int v2)] rfl ?_
          refine g_goto (tgt := 5) C dX1_numberAt_38 (by decide) ?_
          exact g_lv [(0, .ref (E.2.1 4)), (1, .int v1), (2, .int v2), (3, .int x7), (4, .int x8)] [2, 3, 4, 1, 0] rfl (ih v1 v2 x7 x8 hf)
        · rw [if_pos c6] at hf
          refine g_iload C 4 dX1_numberAt_29 rfl ?_
          exact g_iretR C hR hf dX1_numberAt_31
set_option maxRecDepth 100000 in
set_option maxHeartbeats 4000000 in
theorem c_X1_numberAt (l : Launch) (E : EV) {σ : ST} {p0 : Int32} {p1 : Int32} {rr : Int32} (hf : f_X1_numberAt σ p0 p1 = some rr) : CT l E yX1_numberAt cX1_numberAt 5 (some .int) rm_X1_numberAt [.ref (E.2.1 4), .int p0, .int p1] σ (some (.int rr)) σ := by
  refine CT.of RX1 rfl (by decide) (Nat.le_of_ble_eq_true rfl) rfl rfl (fun Γ C hR => ?_)
  show GW Γ 5 E σ 0 [(0, .ref (E.2.1 4)), (1, .int p0), (2, .int p1)] []
  rw [f_X1_numberAt] at hf
  refine g_iconst C dX1_numberAt_0 (v := 0) (by decide) ?_
  refine g_istore_n C dX1_numberAt_1 (by decide) [(3, .int 0), (0, .ref (E.2.1 4)), (1, .int p0), (2, .int p1)] rfl ?_
  refine g_iconst C dX1_numberAt_2 (v := 0) (by decide) ?_
  refine g_istore C dX1_numberAt_3 (by decide) [(4, .int 0), (3, .int 0), (0, .ref (E.2.1 4)), (1, .int p0), (2, .int p1)] rfl ?_
  exact g_lv [(0, .ref (E.2.1 4)), (1, .int p0), (2, .int p1), (3, .int 0), (4, .int 0)] [2, 3, 4, 1, 0] rfl (t_X1_numberAt_L5 C hR fuel p0 p1 0 0 hf)
abbrev rm_X3_setTonic : Room := { frames := 0, cells := 0, slots := 0, locals := 0 }
set_option maxRecDepth 100000 in
set_option maxHeartbeats 4000000 in
theorem c_X3_setTonic (l : Launch) (E : EV) {σ ss : ST} {p0 : Int32} {p1 : Int32} (hf : f_X3_setTonic p0 p1 σ = some ss) : CT l E yX3_setTonic cX3_setTonic 3 none rm_X3_setTonic [.ref (E.2.1 6), .int p0, .int p1] σ none ss := by
  refine CT.of RX3 rfl (by decide) (Nat.le_of_ble_eq_true rfl) rfl rfl (fun Γ C hR => ?_)
  show GW Γ 3 E σ 0 [(0, .ref (E.2.1 6)), (1, .int p0), (2, .int p1)] []
  rw [f_X3_setTonic] at hf
  refine g_iload_n C 1 dX3_setTonic_0 rfl ?_
  refine g_if_lt (y := 0) (tgt := 20) C dX3_setTonic_1 (by decide) (fun c1 => ?_) (fun c1 => ?_)
  · rw [if_pos c1] at hf
    exact g_vretW C hR hf dX3_setTonic_20
  · rw [if_neg c1] at hf
    refine g_iload_n C 1 dX3_setTonic_4 rfl ?_
    refine g_aload_n C 0 dX3_setTonic_5 rfl ?_
    refine fg_X3_9_6 C dX3_setTonic_6 ?_
    refine g_alenA C ar_7 dX3_setTonic_9 (v := 8) (by decide) ?_
    refine g_icmp_ge (tgt := 20) C dX3_setTonic_10 (by decide) (fun c2 => ?_) (fun c2 => ?_)
    · rw [if_pos c2] at hf
      exact g_vretW C hR hf dX3_setTonic_20
    · rw [if_neg c2] at hf
      refine g_aload_n C 0 dX3_setTonic_13 rfl ?_
      refine fg_X3_9_6 C dX3_setTonic_14 ?_
      refine g_iload_n C 1 dX3_setTonic_17 rfl ?_
      refine g_iload_n C 2 dX3_setTonic_18 rfl ?_
      obtain ⟨h4, hf⟩ := o_if hf
      obtain ⟨σ3, hσ3, hf⟩ := o_let hf
      refine g_ast C ar_7 dX3_setTonic_19 (k := p0.toNatClampNeg) rfl h4 hσ3 ?_
      exact g_vretW C hR hf dX3_setTonic_20
abbrev rm_X3_enter : Room := { frames := 3, cells := 0, slots := 0, locals := 64 }
set_option maxRecDepth 100000 in
set_option maxHeartbeats 4000000 in
theorem t_X3_enter_B47 {Γ : CX} {l : Launch} {E : EV} {ss : ST} (C : FX Γ l cX3_enter 4 RX3 rm_X3_enter E) (hR : RT Γ none E none ss) (σ : ST) (hf : f_X3_enter_B47 σ = some ss) : GW Γ 4 E σ 47 [(0, .ref (E.2.1 6))] [] := by
  rw [f_X3_enter_B47] at hf
  refine g_aload_n C 0 dX3_enter_47 rfl ?_
  refine g_iconst C dX3_enter_48 (v := 0) (by decide) ?_
  obtain ⟨σ3, hσ3, hf⟩ := o_let hf
  refine fp_X3_44_6 C dX3_enter_49 hσ3 ?_
  refine g_aload_n C 0 dX3_enter_52 rfl ?_
  refine g_iconst C dX3_enter_53 (v := 0) (by decide) ?_
  obtain ⟨σ4, hσ4, hf⟩ := o_let hf
  refine fp_X3_48_6 C dX3_enter_54 (by decide) hσ4 ?_
  refine g_aload_n C 0 dX3_enter_57 rfl ?_
  refine g_iconst C dX3_enter_58 (v := 0) (by decide) ?_
  obtain ⟨σ5, hσ5, hf⟩ := o_let hf
  refine fp_X3_52_6 C dX3_enter_59 hσ5 ?_
  refine g_aload_n C 0 dX3_enter_62 rfl ?_
  refine g_iconst C dX3_enter_63 (v := 0) (by decide) ?_
  obtain ⟨σ6, hσ6, hf⟩ := o_let hf
  refine fp_X3_55_6 C dX3_enter_64 hσ6 ?_
  exact g_vretW C hR hf dX3_enter_67
set_option maxRecDepth 100000 in
set_option maxHeartbeats 4000000 in
theorem t_X3_enter_L25 {Γ : CX} {l : Launch} {E : EV} {ss : ST} (C : FX Γ l cX3_enter 4 RX3 rm_X3_enter E) (hR : RT Γ none E none ss) : ∀ (n : Nat) (v3 : Int32) (σ : ST), f_X3_enter_L25 n v3 σ = some ss → GW Γ 4 E σ 25 [(0, .ref (E.2.1 6)), (3, .int v3)] [] := by
  intro n
  induction n with
  | zero => intro v3 σ hf; exact nomatch hf
  | succ n ih =>
    intro v3 σ hf
    rw [f_X3_enter_L25] at hf
    refine g_iload_n C 1 dX3_enter_25 rfl ?_
    refine g_aload_n C 0 dX3_enter_26 rfl ?_
    refine fg_X3_15_6 C dX3_enter_27 ?_
    refine g_alenA C ar_8 dX3_enter_30 (v := 8) (by decide) ?_
    refine g_icmp_ge (tgt := 47) C dX3_enter_31 (by decide) (fun c2 => ?_) (fun c2 => ?_)
    · rw [if_pos c2] at hf
      exact g_lv [(0, .ref (E.2.1 6))] [0] rfl (t_X3_enter_B47 C hR σ hf)
    · rw [if_neg c2] at hf
      refine g_aload_n C 0 dX3_enter_34 rfl ?_
      refine fg_X3_15_6 C dX3_enter_35 ?_
      refine g_iload_n C 1 dX3_enter_38 rfl ?_
      refine g_iconst C dX3_enter_39 (v := 0) (by decide) ?_
      obtain ⟨h8, hf⟩ := o_if hf
      obtain ⟨σ7, hσ7, hf⟩ := o_let hf
      refine g_ast C ar_8 dX3_enter_40 (k := v3.toNatClampNeg) rfl h8 hσ7 ?_
      obtain ⟨x9, hx9, hf⟩ := o_let hf
      refine g_iinc C 1 dX3_enter_41 rfl hx9 (by decide) [(3, .int x9), (0, .ref (E.2.1 6))] rfl ?_
      refine g_goto (tgt := 25) C dX3_enter_44 (by decide) ?_
      exact g_lv [(0, .ref (E.2.1 6)), (3, .int x9)] [1, 0] rfl (ih x9 σ7 hf)
set_option maxRecDepth 100000 in
set_option maxHeartbeats 4000000 in
theorem t_X3_enter_B23 {Γ : CX} {l : Launch} {E : EV} {ss : ST} (C : FX Γ l cX3_enter 4 RX3 rm_X3_enter E) (hR : RT Γ none E none ss) (σ : ST) (hf : f_X3_enter_B23 σ = some ss) : GW Γ 4 E σ 23 [(0, .ref (E.2.1 6))] [] := by
  rw [f_X3_enter_B23] at hf
  refine g_iconst C dX3_enter_23 (v := 0) (by decide) ?_
  refine g_istore_n C dX3_enter_24 (by decide) [(3, .int 0), (0, .ref (E.2.1 6))] rfl ?_
  exact g_lv [(0, .ref (E.2.1 6)), (3, .int 0)] [1, 0] rfl (t_X3_enter_L25 C hR fuel 0 σ hf)
set_option maxRecDepth 100000 in
set_option maxHeartbeats 4000000 in
theorem t_X3_enter_L2 {Γ : CX} {l : Launch} {E : EV} {ss : ST} (C : FX Γ l cX3_enter 4 RX3 rm_X3_enter E) (hR : RT Γ none E none ss) : ∀ (n : Nat) (v2 : Int32) (v3 : Int32) (σ : ST), f_X3_enter_L2 n v2 v3 σ = some ss → GW Γ 4 E σ 2 [(0, .ref (E.2.1 6)), (1, .ref (E.2.1 1)), (2, .int v2), (3, .int v3)] [] := by
  intro n
  induction n with
  | zero => intro v2 v3 σ hf; exact nomatch hf
  | succ n ih =>
    intro v2 v3 σ hf
    rw [f_X3_enter_L2] at hf
    refine g_iload_n C 3 dX3_enter_2 rfl ?_
    refine g_iload_n C 2 dX3_enter_3 rfl ?_
    refine g_icmp_ge (tgt := 23) C dX3_enter_4 (by decide) (fun c1 => ?_) (fun c1 => ?_)
    · rw [if_pos c1] at hf
      exact g_lv [(0, .ref (E.2.1 6))] [0] rfl (t_X3_enter_B23 C hR σ hf)
    · rw [if_neg c1] at hf
      refine g_aload_n C 0 dX3_enter_7 rfl ?_
      refine g_iload_n C 3 dX3_enter_8 rfl ?_
      refine g_aload_n C 1 dX3_enter_9 rfl ?_
      refine g_iload_n C 3 dX3_enter_10 rfl ?_
      obtain ⟨r11, h10, hf⟩ := o_bind hf
      refine g_callV C 1 (c_X4_tonicOf l E h10) cls_4 k_X3_34 ⟨rfl, rfl, Nat.le_of_ble_eq_true rfl, Nat.le_of_ble_eq_true rfl⟩ (by decide) rfl rfl (Nat.le_of_ble_eq_true rfl) dX3_enter_11 _ rfl ?_
      obtain ⟨σ13, h12, hf⟩ := o_bind hf
      refine g_callV C 6 (c_X3_setTonic l E h12) cls_3 k_X3_40 ⟨rfl, rfl, Nat.le_of_ble_eq_true rfl, Nat.le_of_ble_eq_true rfl⟩ (by decide) rfl rfl (Nat.le_of_ble_eq_true rfl) dX3_enter_14 _ rfl ?_
      obtain ⟨x14, hx14, hf⟩ := o_let hf
      refine g_iinc C 3 dX3_enter_17 rfl hx14 (by decide) [(3, .int x14), (0, .ref (E.2.1 6)), (1, .ref (E.2.1 1)), (2, .int v2)] rfl ?_
      refine g_goto (tgt := 2) C dX3_enter_20 (by decide) ?_
      exact g_lv [(0, .ref (E.2.1 6)), (1, .ref (E.2.1 1)), (2, .int v2), (3, .int x14)] [1, 2, 3, 0] rfl (ih v2 x14 σ13 hf)
set_option maxRecDepth 100000 in
set_option maxHeartbeats 4000000 in
theorem c_X3_enter (l : Launch) (E : EV) {σ ss : ST} {p1 : Int32} (hf : f_X3_enter p1 σ = some ss) : CT l E yX3_enter cX3_enter 4 none rm_X3_enter [.ref (E.2.1 6), .ref (E.2.1 1), .int p1] σ none ss := by
  refine CT.of RX3 rfl (by decide) (Nat.le_of_ble_eq_true rfl) rfl rfl (fun Γ C hR => ?_)
  show GW Γ 4 E σ 0 [(0, .ref (E.2.1 6)), (1, .ref (E.2.1 1)), (2, .int p1)] []
  rw [f_X3_enter] at hf
  refine g_iconst C dX3_enter_0 (v := 0) (by decide) ?_
  refine g_istore_n C dX3_enter_1 (by decide) [(3, .int 0), (0, .ref (E.2.1 6)), (1, .ref (E.2.1 1)), (2, .int p1)] rfl ?_
  exact g_lv [(0, .ref (E.2.1 6)), (1, .ref (E.2.1 1)), (2, .int p1), (3, .int 0)] [1, 2, 3, 0] rfl (t_X3_enter_L2 C hR fuel p1 0 σ hf)
abbrev rm_X3_copy : Room := { frames := 1, cells := 0, slots := 0, locals := 40 }
set_option maxRecDepth 100000 in
set_option maxHeartbeats 4000000 in
theorem c_X3_copy (l : Launch) (E : EV) {σ ss : ST} (hf : f_X3_copy σ = some ss) : CT l E yX3_copy cX3_copy 2 none rm_X3_copy [.ref (E.2.1 6), .ref (E.2.1 14)] σ none ss := by
  refine CT.of RX3 rfl (by decide) (Nat.le_of_ble_eq_true rfl) rfl rfl (fun Γ C hR => ?_)
  show GW Γ 2 E σ 0 [(0, .ref (E.2.1 6)), (1, .ref (E.2.1 14))] []
  rw [f_X3_copy] at hf
  refine g_aload_n C 1 dX3_copy_0 rfl ?_
  refine fg_X3_9_14 C dX3_copy_1 ?_
  refine g_iconst C dX3_copy_4 (v := 0) (by decide) ?_
  refine g_aload_n C 0 dX3_copy_5 rfl ?_
  refine fg_X3_9_6 C dX3_copy_6 ?_
  refine g_iconst C dX3_copy_9 (v := 0) (by decide) ?_
  refine g_bipush C dX3_copy_10 (v := 8) (by decide) ?_
  obtain ⟨σ1, hσ1, hf⟩ := o_let hf
  refine g_acp C ar_15 ar_7 dX3_copy_12 acp_X3_58 (Nat.le_of_ble_eq_true rfl) (Nat.le_of_ble_eq_true rfl) (by decide) (k := 8) (by decide) (by decide) (by decide) hσ1 ?_
  refine g_aload_n C 1 dX3_copy_15 rfl ?_
  refine fg_X3_15_14 C dX3_copy_16 ?_
  refine g_iconst C dX3_copy_19 (v := 0) (by decide) ?_
  refine g_aload_n C 0 dX3_copy_20 rfl ?_
  refine fg_X3_15_6 C dX3_copy_21 ?_
  refine g_iconst C dX3_copy_24 (v := 0) (by decide) ?_
  refine g_bipush C dX3_copy_25 (v := 8) (by decide) ?_
  obtain ⟨σ2, hσ2, hf⟩ := o_let hf
  refine g_acp C ar_16 ar_8 dX3_copy_27 acp_X3_58 (Nat.le_of_ble_eq_true rfl) (Nat.le_of_ble_eq_true rfl) (by decide) (k := 8) (by decide) (by decide) (by decide) hσ2 ?_
  refine g_aload_n C 1 dX3_copy_30 rfl ?_
  refine fg_X3_18_14 C dX3_copy_31 ?_
  refine g_iconst C dX3_copy_34 (v := 0) (by decide) ?_
  refine g_aload_n C 0 dX3_copy_35 rfl ?_
  refine fg_X3_18_6 C dX3_copy_36 ?_
  refine g_iconst C dX3_copy_39 (v := 0) (by decide) ?_
  refine g_bipush C dX3_copy_40 (v := 6) (by decide) ?_
  obtain ⟨σ3, hσ3, hf⟩ := o_let hf
  refine g_acp C ar_17 ar_9 dX3_copy_42 acp_X3_58 (Nat.le_of_ble_eq_true rfl) (Nat.le_of_ble_eq_true rfl) (by decide) (k := 6) (by decide) (by decide) (by decide) hσ3 ?_
  refine g_aload_n C 1 dX3_copy_45 rfl ?_
  refine fg_X3_21_14 C dX3_copy_46 ?_
  refine g_iconst C dX3_copy_49 (v := 0) (by decide) ?_
  refine g_aload_n C 0 dX3_copy_50 rfl ?_
  refine fg_X3_21_6 C dX3_copy_51 ?_
  refine g_iconst C dX3_copy_54 (v := 0) (by decide) ?_
  refine g_bipush C dX3_copy_55 (v := 6) (by decide) ?_
  obtain ⟨σ4, hσ4, hf⟩ := o_let hf
  refine g_acp C ar_18 ar_10 dX3_copy_57 acp_X3_58 (Nat.le_of_ble_eq_true rfl) (Nat.le_of_ble_eq_true rfl) (by decide) (k := 6) (by decide) (by decide) (by decide) hσ4 ?_
  refine g_aload_n C 1 dX3_copy_60 rfl ?_
  refine fg_X3_24_14 C dX3_copy_61 ?_
  refine g_iconst C dX3_copy_64 (v := 0) (by decide) ?_
  refine g_aload_n C 0 dX3_copy_65 rfl ?_
  refine fg_X3_24_6 C dX3_copy_66 ?_
  refine g_iconst C dX3_copy_69 (v := 0) (by decide) ?_
  refine g_bipush C dX3_copy_70 (v := 6) (by decide) ?_
  obtain ⟨σ5, hσ5, hf⟩ := o_let hf
  refine g_acp C ar_19 ar_11 dX3_copy_72 acp_X3_58 (Nat.le_of_ble_eq_true rfl) (Nat.le_of_ble_eq_true rfl) (by decide) (k := 6) (by decide) (by decide) (by decide) hσ5 ?_
  refine g_aload_n C 0 dX3_copy_75 rfl ?_
  refine g_aload_n C 1 dX3_copy_76 rfl ?_
  refine fg_X3_27_14 C dX3_copy_77 ?_
  obtain ⟨σ6, hσ6, hf⟩ := o_let hf
  refine fp_X3_27_6 C dX3_copy_80 hσ6 ?_
  refine g_aload_n C 0 dX3_copy_83 rfl ?_
  refine g_aload_n C 1 dX3_copy_84 rfl ?_
  refine fg_X3_31_14 C dX3_copy_85 ?_
  obtain ⟨σ7, hσ7, hf⟩ := o_let hf
  refine fp_X3_31_6 C dX3_copy_88 hσ7 ?_
  refine g_aload_n C 0 dX3_copy_91 rfl ?_
  refine g_aload_n C 1 dX3_copy_92 rfl ?_
  refine fg_X3_44_14 C dX3_copy_93 ?_
  obtain ⟨σ8, hσ8, hf⟩ := o_let hf
  refine fp_X3_44_6 C dX3_copy_96 hσ8 ?_
  refine g_aload_n C 0 dX3_copy_99 rfl ?_
  refine g_aload_n C 1 dX3_copy_100 rfl ?_
  refine fg_X3_48_14 C dX3_copy_101 ?_
  obtain ⟨h10, hf⟩ := o_if hf
  obtain ⟨σ9, hσ9, hf⟩ := o_let hf
  refine fp_X3_48_6 C dX3_copy_104 h10 hσ9 ?_
  refine g_aload_n C 0 dX3_copy_107 rfl ?_
  refine g_aload_n C 1 dX3_copy_108 rfl ?_
  refine fg_X3_52_14 C dX3_copy_109 ?_
  obtain ⟨σ11, hσ11, hf⟩ := o_let hf
  refine fp_X3_52_6 C dX3_copy_112 hσ11 ?_
  refine g_aload_n C 0 dX3_copy_115 rfl ?_
  refine g_aload_n C 1 dX3_copy_116 rfl ?_
  refine fg_X3_55_14 C dX3_copy_117 ?_
  obtain ⟨σ12, hσ12, hf⟩ := o_let hf
  refine fp_X3_55_6 C dX3_copy_120 hσ12 ?_
  exact g_vretW C hR hf dX3_copy_123
