abbrev rm_X11_askOf : Room := { frames := 5, cells := 0, slots := 0, locals := 116 }
set_option maxRecDepth 100000 in
set_option maxHeartbeats 4000000 in
theorem t_X11_askOf_B142 {Γ : CX} {l : Launch} {E : EV} {rr : Int32} {ss : ST} (k_15 : Int32 → Int32 → Int32 → Int32 → Int32 → ST → Option (Int32 × ST)) (C : FX Γ l cX11_askOf 9 RX11 rm_X11_askOf E) (hR : RT Γ (some .int) E (some (.int rr)) ss) (hk_15 : ∀ (v1 : Int32) (v2 : Int32) (v3 : Int32) (v4 : Int32) (v5 : Int32) (σ : ST), k_15 v1 v2 v3 v4 v5 σ = some (rr, ss) → GW Γ 9 E σ 15 [(0, .ref (E.2.1 20)), (1, .int v1), (2, .int v2), (3, .int v3), (4, .int v4), (5, .int v5)] []) (v1 : Int32) (v2 : Int32) (v4 : Int32) (v5 : Int32) (v6 : Int32) (s0 : Int32) (σ : ST) (hf : f_X11_askOf_B142 k_15 v1 v2 v4 v5 v6 s0 σ = some (rr, ss)) : GW Γ 9 E σ 142 [(0, .ref (E.2.1 20)), (1, .int v1), (2, .int v2), (4, .int v4), (5, .int v5), (6, .int v6)] [.int s0] := by
  rw [f_X11_askOf_B142] at hf
  refine g_istore_n C dX11_askOf_142 (by decide) [(3, .int s0), (0, .ref (E.2.1 20)), (1, .int v1), (2, .int v2), (4, .int v4), (5, .int v5), (6, .int v6)] rfl ?_
  refine g_iload C 6 dX11_askOf_143 rfl ?_
  refine g_iload C 4 dX11_askOf_145 rfl ?_
  obtain ⟨x10, ex10, hf⟩ := o_let hf
  have Kx10 : GW Γ 9 E σ 157 [(0, .ref (E.2.1 20)), (1, .int v1), (2, .int v2), (3, .int s0), (5, .int v5)] [.int x10] := by
    refine g_istore C dX11_askOf_157 (by decide) [(4, .int x10), (0, .ref (E.2.1 20)), (1, .int v1), (2, .int v2), (3, .int s0), (5, .int v5)] rfl ?_
    obtain ⟨x12, hx12, hf⟩ := o_let hf
    refine g_iinc C 5 dX11_askOf_159 rfl hx12 (by decide) [(5, .int x12), (4, .int x10), (0, .ref (E.2.1 20)), (1, .int v1), (2, .int v2), (3, .int s0)] rfl ?_
    refine g_goto (tgt := 15) C dX11_askOf_162 (by decide) ?_
    exact g_lv [(0, .ref (E.2.1 20)), (1, .int v1), (2, .int v2), (3, .int s0), (4, .int x10), (5, .int x12)] [2, 3, 4, 5, 1, 0] rfl (hk_15 v1 v2 s0 x10 x12 σ hf)
  refine g_icmp_ge (tgt := 155) C dX11_askOf_147 (by decide) (fun c11 => ?_) (fun c11 => ?_)
  · rw [if_pos c11] at ex10
    refine g_iload C 4 dX11_askOf_155 rfl ?_
    rw [← ex10] at Kx10
    exact g_lv [(0, .ref (E.2.1 20)), (1, .int v1), (2, .int v2), (3, .int s0), (5, .int v5)] [1, 2, 3, 0, 5] rfl Kx10
  · rw [if_neg c11] at ex10
    refine g_iload C 6 dX11_askOf_150 rfl ?_
    refine g_goto (tgt := 157) C dX11_askOf_152 (by decide) ?_
    rw [← ex10] at Kx10
    exact g_lv [(0, .ref (E.2.1 20)), (1, .int v1), (2, .int v2), (3, .int s0), (5, .int v5)] [1, 2, 3, 0, 5] rfl Kx10
set_option maxRecDepth 100000 in
set_option maxHeartbeats 4000000 in
theorem t_X11_askOf_B129 {Γ : CX} {l : Launch} {E : EV} {rr : Int32} {ss : ST} (k_15 : Int32 → Int32 → Int32 → Int32 → Int32 → ST → Option (Int32 × ST)) (C : FX Γ l cX11_askOf 9 RX11 rm_X11_askOf E) (hR : RT Γ (some .int) E (some (.int rr)) ss) (hk_15 : ∀ (v1 : Int32) (v2 : Int32) (v3 : Int32) (v4 : Int32) (v5 : Int32) (σ : ST), k_15 v1 v2 v3 v4 v5 σ = some (rr, ss) → GW Γ 9 E σ 15 [(0, .ref (E.2.1 20)), (1, .int v1), (2, .int v2), (3, .int v3), (4, .int v4), (5, .int v5)] []) (v1 : Int32) (v2 : Int32) (v3 : Int32) (v4 : Int32) (v5 : Int32) (v6 : Int32) (σ : ST) (hf : f_X11_askOf_B129 k_15 v1 v2 v3 v4 v5 v6 σ = some (rr, ss)) : GW Γ 9 E σ 129 [(0, .ref (E.2.1 20)), (1, .int v1), (2, .int v2), (3, .int v3), (4, .int v4), (5, .int v5), (6, .int v6)] [] := by
  rw [f_X11_askOf_B129] at hf
  refine g_iload C 6 dX11_askOf_129 rfl ?_
  refine g_iload C 4 dX11_askOf_131 rfl ?_
  obtain ⟨x8, ex8, hf⟩ := o_let hf
  have Kx8 : GW Γ 9 E σ 142 [(0, .ref (E.2.1 20)), (1, .int v1), (2, .int v2), (4, .int v4), (5, .int v5), (6, .int v6)] [.int x8] := by
    exact t_X11_askOf_B142 k_15 C hR hk_15 v1 v2 v4 v5 v6 x8 σ hf
  refine g_icmp_ge (tgt := 141) C dX11_askOf_133 (by decide) (fun c9 => ?_) (fun c9 => ?_)
  · rw [if_pos c9] at ex8
    refine g_iload_n C 3 dX11_askOf_141 rfl ?_
    rw [← ex8] at Kx8
    exact g_lv [(0, .ref (E.2.1 20)), (1, .int v1), (2, .int v2), (4, .int v4), (5, .int v5), (6, .int v6)] [0, 1, 2, 4, 5, 6] rfl Kx8
  · rw [if_neg c9] at ex8
    refine g_iload C 5 dX11_askOf_136 rfl ?_
    refine g_goto (tgt := 142) C dX11_askOf_138 (by decide) ?_
    rw [← ex8] at Kx8
    exact g_lv [(0, .ref (E.2.1 20)), (1, .int v1), (2, .int v2), (4, .int v4), (5, .int v5), (6, .int v6)] [0, 1, 2, 4, 5, 6] rfl Kx8
set_option maxRecDepth 100000 in
set_option maxHeartbeats 4000000 in
theorem t_X11_askOf_L56 {Γ : CX} {l : Launch} {E : EV} {rr : Int32} {ss : ST} (k_15 : Int32 → Int32 → Int32 → Int32 → Int32 → ST → Option (Int32 × ST)) (C : FX Γ l cX11_askOf 9 RX11 rm_X11_askOf E) (hR : RT Γ (some .int) E (some (.int rr)) ss) (hk_15 : ∀ (v1 : Int32) (v2 : Int32) (v3 : Int32) (v4 : Int32) (v5 : Int32) (σ : ST), k_15 v1 v2 v3 v4 v5 σ = some (rr, ss) → GW Γ 9 E σ 15 [(0, .ref (E.2.1 20)), (1, .int v1), (2, .int v2), (3, .int v3), (4, .int v4), (5, .int v5)] []) : ∀ (n : Nat) (v1 : Int32) (v2 : Int32) (v3 : Int32) (v4 : Int32) (v5 : Int32) (v6 : Int32) (v7 : Int32) (σ : ST), f_X11_askOf_L56 k_15 n v1 v2 v3 v4 v5 v6 v7 σ = some (rr, ss) → GW Γ 9 E σ 56 [(0, .ref (E.2.1 20)), (1, .int v1), (2, .int v2), (3, .int v3), (4, .int v4), (5, .int v5), (6, .int v6), (7, .int v7)] [] := by
  intro n
  induction n with
  | zero => intro v1 v2 v3 v4 v5 v6 v7 σ hf; exact nomatch hf
  | succ n ih =>
    intro v1 v2 v3 v4 v5 v6 v7 σ hf
    rw [f_X11_askOf_L56] at hf
    refine g_iload C 7 dX11_askOf_56 rfl ?_
    refine g_bipush C dX11_askOf_58 (v := 12) (by decide) ?_
    refine g_icmp_ge (tgt := 129) C dX11_askOf_60 (by decide) (fun c7 => ?_) (fun c7 => ?_)
    · rw [if_pos c7] at hf
      exact g_lv [(0, .ref (E.2.1 20)), (1, .int v1), (2, .int v2), (3, .int v3), (4, .int v4), (5, .int v5), (6, .int v6)] [0, 1, 2, 3, 4, 5, 6] rfl (t_X11_askOf_B129 k_15 C hR hk_15 v1 v2 v3 v4 v5 v6 σ hf)
    · rw [if_neg c7] at hf
      refine g_aload_n C 0 dX11_askOf_63 rfl ?_
      refine g_aload_n C 0 dX11_askOf_64 rfl ?_
      refine fg_X11_13_20 C dX11_askOf_65 ?_
      refine g_iconst C dX11_askOf_68 (v := 3) (by decide) ?_
      refine g_iload_n C 1 dX11_askOf_69 rfl ?_
      refine g_imul C dX11_askOf_70 ?_
      obtain ⟨h13, hf⟩ := o_if hf
      refine g_ald C ar_22 dX11_askOf_71 (k := (3 * v1).toNatClampNeg) rfl h13 ?_
      refine g_iload C 7 dX11_askOf_72 rfl ?_
      refine g_iload C 5 dX11_askOf_74 rfl ?_
      obtain ⟨r16, σ15, h14, hf⟩ := o_bind2 hf
      refine g_callV C 20 (c_X11_comesOut l E h14) cls_10 k_X11_191 ⟨rfl, rfl, Nat.le_of_ble_eq_true rfl, Nat.le_of_ble_eq_true rfl⟩ (by decide) rfl rfl (Nat.le_of_ble_eq_true rfl) dX11_askOf_76 _ rfl ?_
      refine g_istore C dX11_askOf_79 (by decide) [(8, .int r16), (0, .ref (E.2.1 20)), (1, .int v1), (2, .int v2), (3, .int v3), (4, .int v4), (5, .int v5), (6, .int v6), (7, .int v7)] rfl ?_
      refine g_aload_n C 1 dX11_askOf_81 rfl ?_
      refine fg_X11_49_20 C dX11_askOf_82 ?_
      refine g_iload C 0 dX11_askOf_85 rfl ?_
      refine g_dup2 C dX11_askOf_87 rfl rfl ?_
      obtain ⟨h17, hf⟩ := o_if hf
      refine g_ald C ar_34 dX11_askOf_88 (k := r16.toNatClampNeg) rfl h17 ?_
      refine g_iload_n C 3 dX11_askOf_89 rfl ?_
      refine g_iload C 8 dX11_askOf_90 rfl ?_
      refine g_ishr C dX11_askOf_92 ?_
      refine g_iconst C dX11_askOf_93 (v := 1) (by decide) ?_
      refine g_iand C dX11_askOf_94 ?_
      refine g_iadd C dX11_askOf_95 ?_
      obtain ⟨h19, hf⟩ := o_if hf
      obtain ⟨σ18, hσ18, hf⟩ := o_let hf
      refine g_ast C ar_34 dX11_askOf_96 (k := r16.toNatClampNeg) rfl h19 hσ18 ?_
      refine g_aload_n C 1 dX11_askOf_97 rfl ?_
      refine fg_X11_49_20 C dX11_askOf_98 ?_
      refine g_iload C 0 dX11_askOf_101 rfl ?_
      obtain ⟨h20, hf⟩ := o_if hf
      refine g_ald C ar_34 dX11_askOf_103 (k := r16.toNatClampNeg) rfl h20 ?_
      refine g_iload C 7 dX11_askOf_104 rfl ?_
      obtain ⟨x21, ex21, hf⟩ := o_bind hf
      have Kx21 : GW Γ 9 E σ18 121 [(0, .ref (E.2.1 20)), (1, .int v1), (2, .int v2), (3, .int v3), (4, .int v4), (5, .int v5), (7, .int v7)] [.int x21] := by
        refine g_istore C dX11_askOf_121 (by decide) [(6, .int x21), (0, .ref (E.2.1 20)), (1, .int v1), (2, .int v2), (3, .int v3), (4, .int v4), (5, .int v5), (7, .int v7)] rfl ?_
        obtain ⟨x24, hx24, hf⟩ := o_let hf
        refine g_iinc C 7 dX11_askOf_123 rfl hx24 (by decide) [(7, .int x24), (6, .int x21), (0, .ref (E.2.1 20)), (1, .int v1), (2, .int v2), (3, .int v3), (4, .int v4), (5, .int v5)] rfl ?_
        refine g_goto (tgt := 56) C dX11_askOf_126 (by decide) ?_
        exact g_lv [(0, .ref (E.2.1 20)), (1, .int v1), (2, .int v2), (3, .int v3), (4, .int v4), (5, .int v5), (6, .int x21), (7, .int x24)] [2, 3, 4, 5, 6, 7, 1, 0] rfl (ih v1 v2 v3 v4 v5 x21 x24 σ18 hf)
      refine g_icmp_le (tgt := 119) C dX11_askOf_106 (by decide) (fun c22 => ?_) (fun c22 => ?_)
      · rw [if_pos c22] at ex21
        refine g_iload C 7 dX11_askOf_119 rfl ?_
        rw [← Option.some.inj ex21] at Kx21
        exact g_lv [(0, .ref (E.2.1 20)), (1, .int v1), (2, .int v2), (3, .int v3), (4, .int v4), (5, .int v5), (7, .int v7)] [1, 2, 3, 4, 5, 6, 8] rfl Kx21
      · rw [if_neg c22] at ex21
        refine g_aload_n C 1 dX11_askOf_109 rfl ?_
        refine fg_X11_49_20 C dX11_askOf_110 ?_
        refine g_iload C 0 dX11_askOf_113 rfl ?_
        obtain ⟨h23, ex21⟩ := o_if ex21
        refine g_ald C ar_34 dX11_askOf_115 (k := r16.toNatClampNeg) rfl h23 ?_
        refine g_goto (tgt := 121) C dX11_askOf_116 (by decide) ?_
        rw [← Option.some.inj ex21] at Kx21
        exact g_lv [(0, .ref (E.2.1 20)), (1, .int v1), (2, .int v2), (3, .int v3), (4, .int v4), (5, .int v5), (7, .int v7)] [1, 2, 3, 4, 5, 6, 8] rfl Kx21
set_option maxRecDepth 100000 in
set_option maxHeartbeats 4000000 in
theorem t_X11_askOf_B50 {Γ : CX} {l : Launch} {E : EV} {rr : Int32} {ss : ST} (k_15 : Int32 → Int32 → Int32 → Int32 → Int32 → ST → Option (Int32 × ST)) (C : FX Γ l cX11_askOf 9 RX11 rm_X11_askOf E) (hR : RT Γ (some .int) E (some (.int rr)) ss) (hk_15 : ∀ (v1 : Int32) (v2 : Int32) (v3 : Int32) (v4 : Int32) (v5 : Int32) (σ : ST), k_15 v1 v2 v3 v4 v5 σ = some (rr, ss) → GW Γ 9 E σ 15 [(0, .ref (E.2.1 20)), (1, .int v1), (2, .int v2), (3, .int v3), (4, .int v4), (5, .int v5)] []) (v1 : Int32) (v2 : Int32) (v3 : Int32) (v4 : Int32) (v5 : Int32) (σ : ST) (hf : f_X11_askOf_B50 k_15 v1 v2 v3 v4 v5 σ = some (rr, ss)) : GW Γ 9 E σ 50 [(0, .ref (E.2.1 20)), (1, .int v1), (2, .int v2), (3, .int v3), (4, .int v4), (5, .int v5)] [] := by
  rw [f_X11_askOf_B50] at hf
  refine g_iconst C dX11_askOf_50 (v := 0) (by decide) ?_
  refine g_istore C dX11_askOf_51 (by decide) [(6, .int 0), (0, .ref (E.2.1 20)), (1, .int v1), (2, .int v2), (3, .int v3), (4, .int v4), (5, .int v5)] rfl ?_
  refine g_iconst C dX11_askOf_53 (v := 0) (by decide) ?_
  refine g_istore C dX11_askOf_54 (by decide) [(7, .int 0), (6, .int 0), (0, .ref (E.2.1 20)), (1, .int v1), (2, .int v2), (3, .int v3), (4, .int v4), (5, .int v5)] rfl ?_
  exact g_lv [(0, .ref (E.2.1 20)), (1, .int v1), (2, .int v2), (3, .int v3), (4, .int v4), (5, .int v5), (6, .int 0), (7, .int 0)] [2, 3, 4, 5, 6, 7, 1, 0] rfl (t_X11_askOf_L56 k_15 C hR hk_15 fuel v1 v2 v3 v4 v5 0 0 σ hf)
set_option maxRecDepth 100000 in
set_option maxHeartbeats 4000000 in
theorem t_X11_askOf_L29 {Γ : CX} {l : Launch} {E : EV} {rr : Int32} {ss : ST} (k_15 : Int32 → Int32 → Int32 → Int32 → Int32 → ST → Option (Int32 × ST)) (C : FX Γ l cX11_askOf 9 RX11 rm_X11_askOf E) (hR : RT Γ (some .int) E (some (.int rr)) ss) (hk_15 : ∀ (v1 : Int32) (v2 : Int32) (v3 : Int32) (v4 : Int32) (v5 : Int32) (σ : ST), k_15 v1 v2 v3 v4 v5 σ = some (rr, ss) → GW Γ 9 E σ 15 [(0, .ref (E.2.1 20)), (1, .int v1), (2, .int v2), (3, .int v3), (4, .int v4), (5, .int v5)] []) : ∀ (n : Nat) (v1 : Int32) (v2 : Int32) (v3 : Int32) (v4 : Int32) (v5 : Int32) (v6 : Int32) (σ : ST), f_X11_askOf_L29 k_15 n v1 v2 v3 v4 v5 v6 σ = some (rr, ss) → GW Γ 9 E σ 29 [(0, .ref (E.2.1 20)), (1, .int v1), (2, .int v2), (3, .int v3), (4, .int v4), (5, .int v5), (6, .int v6)] [] := by
  intro n
  induction n with
  | zero => intro v1 v2 v3 v4 v5 v6 σ hf; exact nomatch hf
  | succ n ih =>
    intro v1 v2 v3 v4 v5 v6 σ hf
    rw [f_X11_askOf_L29] at hf
    refine g_iload C 6 dX11_askOf_29 rfl ?_
    refine g_bipush C dX11_askOf_31 (v := 12) (by decide) ?_
    refine g_icmp_ge (tgt := 50) C dX11_askOf_33 (by decide) (fun c6 => ?_) (fun c6 => ?_)
    · rw [if_pos c6] at hf
      exact g_lv [(0, .ref (E.2.1 20)), (1, .int v1), (2, .int v2), (3, .int v3), (4, .int v4), (5, .int v5)] [0, 1, 2, 3, 4, 5] rfl (t_X11_askOf_B50 k_15 C hR hk_15 v1 v2 v3 v4 v5 σ hf)
    · rw [if_neg c6] at hf
      refine g_aload_n C 0 dX11_askOf_36 rfl ?_
      refine fg_X11_49_20 C dX11_askOf_37 ?_
      refine g_iload C 6 dX11_askOf_40 rfl ?_
      refine g_iconst C dX11_askOf_42 (v := 0) (by decide) ?_
      obtain ⟨h26, hf⟩ := o_if hf
      obtain ⟨σ25, hσ25, hf⟩ := o_let hf
      refine g_ast C ar_34 dX11_askOf_43 (k := v6.toNatClampNeg) rfl h26 hσ25 ?_
      obtain ⟨x27, hx27, hf⟩ := o_let hf
      refine g_iinc C 6 dX11_askOf_44 rfl hx27 (by decide) [(6, .int x27), (0, .ref (E.2.1 20)), (1, .int v1), (2, .int v2), (3, .int v3), (4, .int v4), (5, .int v5)] rfl ?_
      refine g_goto (tgt := 29) C dX11_askOf_47 (by decide) ?_
      exact g_lv [(0, .ref (E.2.1 20)), (1, .int v1), (2, .int v2), (3, .int v3), (4, .int v4), (5, .int v5), (6, .int x27)] [1, 2, 3, 4, 5, 6, 0] rfl (ih v1 v2 v3 v4 v5 x27 σ25 hf)
set_option maxRecDepth 100000 in
set_option maxHeartbeats 4000000 in
theorem t_X11_askOf_L15 {Γ : CX} {l : Launch} {E : EV} {rr : Int32} {ss : ST} (C : FX Γ l cX11_askOf 9 RX11 rm_X11_askOf E) (hR : RT Γ (some .int) E (some (.int rr)) ss) : ∀ (n : Nat) (v1 : Int32) (v2 : Int32) (v3 : Int32) (v4 : Int32) (v5 : Int32) (σ : ST), f_X11_askOf_L15 n v1 v2 v3 v4 v5 σ = some (rr, ss) → GW Γ 9 E σ 15 [(0, .ref (E.2.1 20)), (1, .int v1), (2, .int v2), (3, .int v3), (4, .int v4), (5, .int v5)] [] := by
  intro n
  induction n with
  | zero => intro v1 v2 v3 v4 v5 σ hf; exact nomatch hf
  | succ n ih =>
    intro v1 v2 v3 v4 v5 σ hf
    rw [f_X11_askOf_L15] at hf
    refine g_iload C 5 dX11_askOf_15 rfl ?_
    refine g_bipush C dX11_askOf_17 (v := 12) (by decide) ?_
    refine g_icmp_ge (tgt := 165) C dX11_askOf_19 (by decide) (fun c4 => ?_) (fun c4 => ?_)
    · rw [if_pos c4] at hf
      refine g_iload_n C 3 dX11_askOf_165 rfl ?_
      exact g_iretW C hR hf dX11_askOf_166
    · rw [if_neg c4] at hf
      refine g_iload_n C 2 dX11_askOf_22 rfl ?_
      refine g_if_eq (y := 0) (tgt := 165) C dX11_askOf_23 (by decide) (fun c5 => ?_) (fun c5 => ?_)
      · rw [if_pos c5] at hf
        refine g_iload_n C 3 dX11_askOf_165 rfl ?_
        exact g_iretW C hR hf dX11_askOf_166
      · rw [if_neg c5] at hf
        refine g_iconst C dX11_askOf_26 (v := 0) (by decide) ?_
        refine g_istore C dX11_askOf_27 (by decide) [(6, .int 0), (0, .ref (E.2.1 20)), (1, .int v1), (2, .int v2), (3, .int v3), (4, .int v4), (5, .int v5)] rfl ?_
        exact g_lv [(0, .ref (E.2.1 20)), (1, .int v1), (2, .int v2), (3, .int v3), (4, .int v4), (5, .int v5), (6, .int 0)] [1, 2, 3, 4, 5, 6, 0] rfl (t_X11_askOf_L29 ((f_X11_askOf_L15 n)) C hR ih fuel v1 v2 v3 v4 v5 0 σ hf)
set_option maxRecDepth 100000 in
set_option maxHeartbeats 4000000 in
theorem c_X11_askOf (l : Launch) (E : EV) {σ ss : ST} {p0 : Int32} {rr : Int32} (hf : f_X11_askOf p0 σ = some (rr, ss)) : CT l E yX11_askOf cX11_askOf 9 (some .int) rm_X11_askOf [.ref (E.2.1 20), .int p0] σ (some (.int rr)) ss := by
  refine CT.of RX11 rfl (by decide) (Nat.le_of_ble_eq_true rfl) rfl rfl (fun Γ C hR => ?_)
  show GW Γ 9 E σ 0 [(0, .ref (E.2.1 20)), (1, .int p0)] []
  rw [f_X11_askOf] at hf
  refine g_aload_n C 0 dX11_askOf_0 rfl ?_
  refine g_iload_n C 1 dX11_askOf_1 rfl ?_
  obtain ⟨r3, σ2, h1, hf⟩ := o_bind2 hf
  refine g_callV C 20 (c_X11_tonicsOf l E h1) cls_10 k_X11_213 ⟨rfl, rfl, Nat.le_of_ble_eq_true rfl, Nat.le_of_ble_eq_true rfl⟩ (by decide) rfl rfl (Nat.le_of_ble_eq_true rfl) dX11_askOf_2 _ rfl ?_
  refine g_istore_n C dX11_askOf_5 (by decide) [(2, .int r3), (0, .ref (E.2.1 20)), (1, .int p0)] rfl ?_
  refine g_iconst C dX11_askOf_6 (v := (-1)) (by decide) ?_
  refine g_istore_n C dX11_askOf_7 (by decide) [(3, .int (-1)), (2, .int r3), (0, .ref (E.2.1 20)), (1, .int p0)] rfl ?_
  refine g_bipush C dX11_askOf_8 (v := 13) (by decide) ?_
  refine g_istore C dX11_askOf_10 (by decide) [(4, .int 13), (3, .int (-1)), (2, .int r3), (0, .ref (E.2.1 20)), (1, .int p0)] rfl ?_
  refine g_iconst C dX11_askOf_12 (v := 0) (by decide) ?_
  refine g_istore C dX11_askOf_13 (by decide) [(5, .int 0), (4, .int 13), (3, .int (-1)), (2, .int r3), (0, .ref (E.2.1 20)), (1, .int p0)] rfl ?_
  exact g_lv [(0, .ref (E.2.1 20)), (1, .int p0), (2, .int r3), (3, .int (-1)), (4, .int 13), (5, .int 0)] [4, 5, 3, 2, 1, 0] rfl (t_X11_askOf_L15 C hR fuel p0 r3 (-1) 13 0 σ2 hf)
abbrev rm_X11_tellStreet : Room := { frames := 6, cells := 0, slots := 0, locals := 144 }
set_option maxRecDepth 100000 in
set_option maxHeartbeats 4000000 in
theorem c_X11_tellStreet (l : Launch) (E : EV) {σ ss : ST} {p0 : Int32} {p1 : Int32} {rr : Int32} (hf : f_X11_tellStreet p0 p1 σ = some (rr, ss)) : CT l E yX11_tellStreet cX11_tellStreet 3 (some .int) rm_X11_tellStreet [.ref (E.2.1 20), .int p0, .int p1] σ (some (.int rr)) ss := by
  refine CT.of RX11 rfl (by decide) (Nat.le_of_ble_eq_true rfl) rfl rfl (fun Γ C hR => ?_)
  show GW Γ 3 E σ 0 [(0, .ref (E.2.1 20)), (1, .int p0), (2, .int p1)] []
  rw [f_X11_tellStreet] at hf
  refine g_iload_n C 2 dX11_tellStreet_0 rfl ?_
  by_cases c1 : p1 = 0
  · rw [if_pos c1] at hf
    refine g_tabIn C 0 (tgt := 52) dX11_tellStreet_1 c1 (by decide) (by decide) rfl (by decide) ?_
    refine g_aload_n C 0 dX11_tellStreet_52 rfl ?_
    refine fg_X11_13_20 C dX11_tellStreet_53 ?_
    refine g_iconst C dX11_tellStreet_56 (v := 3) (by decide) ?_
    refine g_iload_n C 1 dX11_tellStreet_57 rfl ?_
    refine g_imul C dX11_tellStreet_58 ?_
    refine g_iload_n C 2 dX11_tellStreet_59 rfl ?_
    refine g_iadd C dX11_tellStreet_60 ?_
    obtain ⟨h2, hf⟩ := o_if hf
    refine g_ald C ar_22 dX11_tellStreet_61 (k := ((3 * p0) + p1).toNatClampNeg) rfl h2 ?_
    exact g_iretW C hR hf dX11_tellStreet_62
  rw [if_neg c1] at hf
  by_cases c3 : p1 = 1
  · rw [if_pos c3] at hf
    refine g_tabIn C 1 (tgt := 52) dX11_tellStreet_1 c3 (by decide) (by decide) rfl (by decide) ?_
    refine g_aload_n C 0 dX11_tellStreet_52 rfl ?_
    refine fg_X11_13_20 C dX11_tellStreet_53 ?_
    refine g_iconst C dX11_tellStreet_56 (v := 3) (by decide) ?_
    refine g_iload_n C 1 dX11_tellStreet_57 rfl ?_
    refine g_imul C dX11_tellStreet_58 ?_
    refine g_iload_n C 2 dX11_tellStreet_59 rfl ?_
    refine g_iadd C dX11_tellStreet_60 ?_
    obtain ⟨h4, hf⟩ := o_if hf
    refine g_ald C ar_22 dX11_tellStreet_61 (k := ((3 * p0) + p1).toNatClampNeg) rfl h4 ?_
    exact g_iretW C hR hf dX11_tellStreet_62
  rw [if_neg c3] at hf
  by_cases c5 : p1 = 2
  · rw [if_pos c5] at hf
    refine g_tabIn C 2 (tgt := 52) dX11_tellStreet_1 c5 (by decide) (by decide) rfl (by decide) ?_
    refine g_aload_n C 0 dX11_tellStreet_52 rfl ?_
    refine fg_X11_13_20 C dX11_tellStreet_53 ?_
    refine g_iconst C dX11_tellStreet_56 (v := 3) (by decide) ?_
    refine g_iload_n C 1 dX11_tellStreet_57 rfl ?_
    refine g_imul C dX11_tellStreet_58 ?_
    refine g_iload_n C 2 dX11_tellStreet_59 rfl ?_
    refine g_iadd C dX11_tellStreet_60 ?_
    obtain ⟨h6, hf⟩ := o_if hf
    refine g_ald C ar_22 dX11_tellStreet_61 (k := ((3 * p0) + p1).toNatClampNeg) rfl h6 ?_
    exact g_iretW C hR hf dX11_tellStreet_62
  rw [if_neg c5] at hf
  by_cases c7 : p1 = 3
  · rw [if_pos c7] at hf
    refine g_tabIn C 3 (tgt := 63) dX11_tellStreet_1 c7 (by decide) (by decide) rfl (by decide) ?_
    refine g_aload_n C 0 dX11_tellStreet_63 rfl ?_
    refine fg_X11_16_20 C dX11_tellStreet_64 ?_
    refine g_iload_n C 1 dX11_tellStreet_67 rfl ?_
    obtain ⟨h8, hf⟩ := o_if hf
    refine g_ald C ar_23 dX11_tellStreet_68 (k := p0.toNatClampNeg) rfl h8 ?_
    exact g_iretW C hR hf dX11_tellStreet_69
  rw [if_neg c7] at hf
  by_cases c9 : p1 = 4
  · rw [if_pos c9] at hf
    refine g_tabIn C 4 (tgt := 70) dX11_tellStreet_1 c9 (by decide) (by decide) rfl (by decide) ?_
    refine g_aload_n C 0 dX11_tellStreet_70 rfl ?_
    refine g_iload_n C 1 dX11_tellStreet_71 rfl ?_
    obtain ⟨r12, σ11, h10, hf⟩ := o_bind2 hf
    refine g_callV C 20 (c_X11_leavesOf l E h10) cls_10 k_X11_207 ⟨rfl, rfl, Nat.le_of_ble_eq_true rfl, Nat.le_of_ble_eq_true rfl⟩ (by decide) rfl rfl (Nat.le_of_ble_eq_true rfl) dX11_tellStreet_72 _ rfl ?_
    exact g_iretW C hR hf dX11_tellStreet_75
  rw [if_neg c9] at hf
  by_cases c13 : p1 = 5
  · rw [if_pos c13] at hf
    refine g_tabIn C 5 (tgt := 76) dX11_tellStreet_1 c13 (by decide) (by decide) rfl (by decide) ?_
    refine g_aload_n C 0 dX11_tellStreet_76 rfl ?_
    refine g_iload_n C 1 dX11_tellStreet_77 rfl ?_
    obtain ⟨r16, σ15, h14, hf⟩ := o_bind2 hf
    refine g_callV C 20 (c_X11_againOf l E h14) cls_10 k_X11_210 ⟨rfl, rfl, Nat.le_of_ble_eq_true rfl, Nat.le_of_ble_eq_true rfl⟩ (by decide) rfl rfl (Nat.le_of_ble_eq_true rfl) dX11_tellStreet_78 _ rfl ?_
    exact g_iretW C hR hf dX11_tellStreet_81
  rw [if_neg c13] at hf
  by_cases c17 : p1 = 6
  · rw [if_pos c17] at hf
    refine g_tabIn C 6 (tgt := 82) dX11_tellStreet_1 c17 (by decide) (by decide) rfl (by decide) ?_
    refine g_aload_n C 0 dX11_tellStreet_82 rfl ?_
    refine g_iload_n C 1 dX11_tellStreet_83 rfl ?_
    obtain ⟨r20, σ19, h18, hf⟩ := o_bind2 hf
    refine g_callV C 20 (c_X11_tonicsOf l E h18) cls_10 k_X11_213 ⟨rfl, rfl, Nat.le_of_ble_eq_true rfl, Nat.le_of_ble_eq_true rfl⟩ (by decide) rfl rfl (Nat.le_of_ble_eq_true rfl) dX11_tellStreet_84 _ rfl ?_
    exact g_iretW C hR hf dX11_tellStreet_87
  rw [if_neg c17] at hf
  by_cases c21 : p1 = 7
  · rw [if_pos c21] at hf
    refine g_tabIn C 7 (tgt := 88) dX11_tellStreet_1 c21 (by decide) (by decide) rfl (by decide) ?_
    refine g_aload_n C 0 dX11_tellStreet_88 rfl ?_
    refine g_iload_n C 1 dX11_tellStreet_89 rfl ?_
    obtain ⟨r24, σ23, h22, hf⟩ := o_bind2 hf
    refine g_callV C 20 (c_X11_askOf l E h22) cls_10 k_X11_216 ⟨rfl, rfl, Nat.le_of_ble_eq_true rfl, Nat.le_of_ble_eq_true rfl⟩ (by decide) rfl rfl (Nat.le_of_ble_eq_true rfl) dX11_tellStreet_90 _ rfl ?_
    exact g_iretW C hR hf dX11_tellStreet_93
  rw [if_neg c21] at hf
  by_cases c25 : p1 = 8
  · rw [if_pos c25] at hf
    refine g_tabIn C 8 (tgt := 94) dX11_tellStreet_1 c25 (by decide) (by decide) rfl (by decide) ?_
    refine g_aload_n C 0 dX11_tellStreet_94 rfl ?_
    refine fg_X11_19_20 C dX11_tellStreet_95 ?_
    refine g_iload_n C 1 dX11_tellStreet_98 rfl ?_
    obtain ⟨h26, hf⟩ := o_if hf
    refine g_ald C ar_24 dX11_tellStreet_99 (k := p0.toNatClampNeg) rfl h26 ?_
    exact g_iretW C hR hf dX11_tellStreet_100
  rw [if_neg c25] at hf
  refine g_tabOut (tgt := 101) C dX11_tellStreet_1 (by have qc1 := lv_neT c1 (show (0 : Int32).toInt = 0 by decide); have qc3 := lv_neT c3 (show (1 : Int32).toInt = 1 by decide); have qc5 := lv_neT c5 (show (2 : Int32).toInt = 2 by decide); have qc7 := lv_neT c7 (show (3 : Int32).toInt = 3 by decide); have qc9 := lv_neT c9 (show (4 : Int32).toInt = 4 by decide); have qc13 := lv_neT c13 (show (5 : Int32).toInt = 5 by decide); have qc17 := lv_neT c17 (show (6 : Int32).toInt = 6 by decide); have qc21 := lv_neT c21 (show (7 : Int32).toInt = 7 by decide); have qc25 := lv_neT c25 (show (8 : Int32).toInt = 8 by decide); omega) (by decide) ?_
  refine g_bipush C dX11_tellStreet_101 (v := (-102)) (by decide) ?_
  exact g_iretW C hR hf dX11_tellStreet_103
abbrev rm_X11_street : Room := { frames := 7, cells := 0, slots := 0, locals := 166 }
set_option maxRecDepth 100000 in
set_option maxHeartbeats 4000000 in
theorem c_X11_street (l : Launch) (E : EV) {σ ss : ST} {p0 : Int32} {p1 : Int32} {rr : Int32} (hf : f_X11_street p0 p1 σ = some (rr, ss)) : CT l E yX11_street cX11_street 3 (some .int) rm_X11_street [.ref (E.2.1 20), .int p0, .int p1] σ (some (.int rr)) ss := by
  refine CT.of RX11 rfl (by decide) (Nat.le_of_ble_eq_true rfl) rfl rfl (fun Γ C hR => ?_)
  show GW Γ 3 E σ 0 [(0, .ref (E.2.1 20)), (1, .int p0), (2, .int p1)] []
  rw [f_X11_street] at hf
  refine g_aload_n C 0 dX11_street_0 rfl ?_
  refine g_iload_n C 1 dX11_street_1 rfl ?_
  obtain ⟨r2, h1, hf⟩ := o_bind hf
  refine g_callV C 20 (c_X11_isStreet l E h1) cls_10 k_X11_185 ⟨rfl, rfl, Nat.le_of_ble_eq_true rfl, Nat.le_of_ble_eq_true rfl⟩ (by decide) rfl rfl (Nat.le_of_ble_eq_true rfl) dX11_street_2 _ rfl ?_
  refine g_if_eq (y := 0) (tgt := 17) C dX11_street_5 (by decide) (fun c3 => ?_) (fun c3 => ?_)
  · rw [if_pos c3] at hf
    refine g_bipush C dX11_street_17 (v := (-101)) (by decide) ?_
    exact g_iretW C hR hf dX11_street_19
  · rw [if_neg c3] at hf
    refine g_aload_n C 0 dX11_street_8 rfl ?_
    refine g_iload_n C 1 dX11_street_9 rfl ?_
    refine g_iload_n C 2 dX11_street_10 rfl ?_
    obtain ⟨r6, σ5, h4, hf⟩ := o_bind2 hf
    refine g_callV C 20 (c_X11_tellStreet l E h4) cls_10 k_X11_219 ⟨rfl, rfl, Nat.le_of_ble_eq_true rfl, Nat.le_of_ble_eq_true rfl⟩ (by decide) rfl rfl (Nat.le_of_ble_eq_true rfl) dX11_street_11 _ rfl ?_
    refine g_goto (tgt := 19) C dX11_street_14 (by decide) ?_
    exact g_iretW C hR hf dX11_street_19
abbrev rm_X11_as : Room := { frames := 2, cells := 0, slots := 0, locals := 46 }
set_option maxRecDepth 100000 in
set_option maxHeartbeats 4000000 in
theorem t_X11_as_B64 {Γ : CX} {l : Launch} {E : EV} {σ : ST} {rr : Int32} (C : FX Γ l cX11_as 4 RX11 rm_X11_as E) (hR : RT Γ (some .int) E (some (.int rr)) σ) (v1 : Int32) (s0 : Int32) (hf : f_X11_as_B64 σ v1 s0 = some rr) : GW Γ 4 E σ 64 [(1, .int v1)] [.int s0] := by
  rw [f_X11_as_B64] at hf
  refine g_istore_n C dX11_as_64 (by decide) [(3, .int s0), (1, .int v1)] rfl ?_
  refine g_iload_n C 0 dX11_as_65 rfl ?_
  refine g_if_eq (y := 0) (tgt := 73) C dX11_as_66 (by decide) (fun c14 => ?_) (fun c14 => ?_)
  · rw [if_pos c14] at hf
    refine g_iconst C dX11_as_73 (v := (-1)) (by decide) ?_
    exact g_iretR C hR hf dX11_as_74
  · rw [if_neg c14] at hf
    refine g_iload_n C 1 dX11_as_69 rfl ?_
    refine g_goto (tgt := 74) C dX11_as_70 (by decide) ?_
    exact g_iretR C hR hf dX11_as_74
set_option maxRecDepth 100000 in
set_option maxHeartbeats 4000000 in
theorem c_X11_as (l : Launch) (E : EV) {σ : ST} {p0 : Int32} {p1 : Int32} {rr : Int32} (hf : f_X11_as σ p0 p1 = some rr) : CT l E yX11_as cX11_as 4 (some .int) rm_X11_as [.ref (E.2.1 20), .int p0, .int p1] σ (some (.int rr)) σ := by
  refine CT.of RX11 rfl (by decide) (Nat.le_of_ble_eq_true rfl) rfl rfl (fun Γ C hR => ?_)
  show GW Γ 4 E σ 0 [(0, .ref (E.2.1 20)), (1, .int p0), (2, .int p1)] []
  rw [f_X11_as] at hf
  refine g_aload_n C 0 dX11_as_0 rfl ?_
  refine g_iload_n C 1 dX11_as_1 rfl ?_
  obtain ⟨r2, h1, hf⟩ := o_bind hf
  refine g_callV C 20 (c_X11_isStreet l E h1) cls_10 k_X11_185 ⟨rfl, rfl, Nat.le_of_ble_eq_true rfl, Nat.le_of_ble_eq_true rfl⟩ (by decide) rfl rfl (Nat.le_of_ble_eq_true rfl) dX11_as_2 _ rfl ?_
  refine g_if_ne (y := 0) (tgt := 11) C dX11_as_5 (by decide) (fun c3 => ?_) (fun c3 => ?_)
  · rw [if_neg c3] at hf
    refine g_iload_n C 2 dX11_as_11 rfl ?_
    refine g_i2l C dX11_as_12 ?_
    refine g_lconst C dX11_as_13 (v := 0) (by decide) ?_
    refine g_ldc2 C dX11_as_14 (v := 4) kl_X11_222 ?_
    obtain ⟨r5, h4, hf⟩ := o_bind hf
    refine g_callS C (c_X11_in l E h4) k_X11_73 ⟨rfl, rfl, Nat.le_of_ble_eq_true rfl, Nat.le_of_ble_eq_true rfl⟩ rfl (Nat.le_of_ble_eq_true rfl) dX11_as_17 _ rfl ?_
    refine g_if_ne (y := 0) (tgt := 26) C dX11_as_20 (by decide) (fun c6 => ?_) (fun c6 => ?_)
    · rw [if_neg c6] at hf
      refine g_iload_n C 2 dX11_as_26 rfl ?_
      obtain ⟨x7, ex7, hf⟩ := o_bind hf
      have Kx7 : GW Γ 4 E σ 64 [(1, .int p0)] [.int x7] := by
        exact t_X11_as_B64 C hR p0 x7 hf
      refine g_if_eq (y := 0) (tgt := 59) C dX11_as_27 (by decide) (fun c8 => ?_) (fun c8 => ?_)
      · rw [if_pos c8] at ex7
        refine g_iconst C dX11_as_59 (v := 1) (by decide) ?_
        refine g_goto (tgt := 64) C dX11_as_60 (by decide) ?_
        rw [← Option.some.inj ex7] at Kx7
        exact g_lv [(1, .int p0)] [1] rfl Kx7
      · rw [if_neg c8] at ex7
        refine g_iload_n C 2 dX11_as_30 rfl ?_
        refine g_aload_n C 0 dX11_as_31 rfl ?_
        refine fg_X11_13_20 C dX11_as_32 ?_
        refine g_iconst C dX11_as_35 (v := 3) (by decide) ?_
        refine g_iload_n C 1 dX11_as_36 rfl ?_
        refine g_imul C dX11_as_37 ?_
        obtain ⟨h9, ex7⟩ := o_if ex7
        refine g_ald C ar_22 dX11_as_38 (k := (3 * p0).toNatClampNeg) rfl h9 ?_
        refine g_icmp_eq (tgt := 59) C dX11_as_39 (by decide) (fun c10 => ?_) (fun c10 => ?_)
        · rw [if_pos c10] at ex7
          refine g_iconst C dX11_as_59 (v := 1) (by decide) ?_
          refine g_goto (tgt := 64) C dX11_as_60 (by decide) ?_
          rw [← Option.some.inj ex7] at Kx7
          exact g_lv [(1, .int p0)] [1] rfl Kx7
        · rw [if_neg c10] at ex7
          refine g_iload_n C 2 dX11_as_42 rfl ?_
          refine g_iconst C dX11_as_43 (v := 1) (by decide) ?_
          refine g_icmp_ne (tgt := 63) C dX11_as_44 (by decide) (fun c11 => ?_) (fun c11 => ?_)
          · rw [if_neg c11] at ex7
            refine g_iconst C dX11_as_63 (v := 0) (by decide) ?_
            rw [← Option.some.inj ex7] at Kx7
            exact g_lv [(1, .int p0)] [1] rfl Kx7
          · rw [if_pos c11] at ex7
            refine g_aload_n C 0 dX11_as_47 rfl ?_
            refine fg_X11_13_20 C dX11_as_48 ?_
            refine g_iconst C dX11_as_51 (v := 3) (by decide) ?_
            refine g_iload_n C 1 dX11_as_52 rfl ?_
            refine g_imul C dX11_as_53 ?_
            obtain ⟨h12, ex7⟩ := o_if ex7
            refine g_ald C ar_22 dX11_as_54 (k := (3 * p0).toNatClampNeg) rfl h12 ?_
            refine g_iconst C dX11_as_55 (v := 4) (by decide) ?_
            refine g_icmp_ne (tgt := 63) C dX11_as_56 (by decide) (fun c13 => ?_) (fun c13 => ?_)
            · rw [if_neg c13] at ex7
              refine g_iconst C dX11_as_63 (v := 0) (by decide) ?_
              rw [← Option.some.inj ex7] at Kx7
              exact g_lv [(1, .int p0)] [1] rfl Kx7
            · rw [if_pos c13] at ex7
              refine g_iconst C dX11_as_59 (v := 1) (by decide) ?_
              refine g_goto (tgt := 64) C dX11_as_60 (by decide) ?_
              rw [← Option.some.inj ex7] at Kx7
              exact g_lv [(1, .int p0)] [1] rfl Kx7
    · rw [if_pos c6] at hf
      refine g_bipush C dX11_as_23 (v := (-102)) (by decide) ?_
      exact g_iretR C hR hf dX11_as_25
  · rw [if_pos c3] at hf
    refine g_bipush C dX11_as_8 (v := (-101)) (by decide) ?_
    exact g_iretR C hR hf dX11_as_10
abbrev rm_X11_walk : Room := { frames := 4, cells := 0, slots := 0, locals := 91 }
set_option maxRecDepth 100000 in
set_option maxHeartbeats 4000000 in
theorem c_X11_walk (l : Launch) (E : EV) {σ ss : ST} {p0 : Int32} {rr : Int32} (hf : f_X11_walk p0 σ = some (rr, ss)) : CT l E yX11_walk cX11_walk 2 (some .int) rm_X11_walk [.ref (E.2.1 20), .int p0] σ (some (.int rr)) ss := by
  refine CT.of RX11 rfl (by decide) (Nat.le_of_ble_eq_true rfl) rfl rfl (fun Γ C hR => ?_)
  show GW Γ 2 E σ 0 [(0, .ref (E.2.1 20)), (1, .int p0)] []
  rw [f_X11_walk] at hf
  refine g_aload_n C 0 dX11_walk_0 rfl ?_
  refine g_iload_n C 1 dX11_walk_1 rfl ?_
  obtain ⟨r2, h1, hf⟩ := o_bind hf
  refine g_callV C 20 (c_X11_isStreet l E h1) cls_10 k_X11_185 ⟨rfl, rfl, Nat.le_of_ble_eq_true rfl, Nat.le_of_ble_eq_true rfl⟩ (by decide) rfl rfl (Nat.le_of_ble_eq_true rfl) dX11_walk_2 _ rfl ?_
  refine g_if_ne (y := 0) (tgt := 11) C dX11_walk_5 (by decide) (fun c3 => ?_) (fun c3 => ?_)
  · rw [if_neg c3] at hf
    refine g_aload_n C 0 dX11_walk_11 rfl ?_
    refine fg_X11_135_20 C dX11_walk_12 ?_
    refine g_if_eq (y := 0) (tgt := 46) C dX11_walk_15 (by decide) (fun c4 => ?_) (fun c4 => ?_)
    · rw [if_pos c4] at hf
      refine g_bipush C dX11_walk_46 (v := (-103)) (by decide) ?_
      exact g_iretW C hR hf dX11_walk_48
    · rw [if_neg c4] at hf
      refine g_aload_n C 0 dX11_walk_18 rfl ?_
      refine g_iload_n C 1 dX11_walk_19 rfl ?_
      refine g_aload_n C 0 dX11_walk_20 rfl ?_
      refine fg_X11_111_20 C dX11_walk_21 ?_
      obtain ⟨r6, h5, hf⟩ := o_bind hf
      refine g_callV C 20 (c_X11_endsAt l E h5) cls_10 k_X11_224 ⟨rfl, rfl, Nat.le_of_ble_eq_true rfl, Nat.le_of_ble_eq_true rfl⟩ (by decide) rfl rfl (Nat.le_of_ble_eq_true rfl) dX11_walk_24 _ rfl ?_
      refine g_if_eq (y := 0) (tgt := 46) C dX11_walk_27 (by decide) (fun c7 => ?_) (fun c7 => ?_)
      · rw [if_pos c7] at hf
        refine g_bipush C dX11_walk_46 (v := (-103)) (by decide) ?_
        exact g_iretW C hR hf dX11_walk_48
      · rw [if_neg c7] at hf
        refine g_aload_n C 0 dX11_walk_30 rfl ?_
        refine g_iload_n C 1 dX11_walk_31 rfl ?_
        refine g_aload_n C 0 dX11_walk_32 rfl ?_
        refine fg_X11_22_20 C dX11_walk_33 ?_
        refine g_aload_n C 0 dX11_walk_36 rfl ?_
        refine fg_X11_135_20 C dX11_walk_37 ?_
        obtain ⟨r9, h8, hf⟩ := o_bind hf
        refine g_callV C 20 (c_X11_isOpen l E 25 8 ar_25 h8) cls_10 k_X11_227 ⟨rfl, rfl, Nat.le_of_ble_eq_true rfl, Nat.le_of_ble_eq_true rfl⟩ (by decide) rfl rfl (Nat.le_of_ble_eq_true rfl) dX11_walk_40 _ rfl ?_
        refine g_if_ne (y := 0) (tgt := 49) C dX11_walk_43 (by decide) (fun c10 => ?_) (fun c10 => ?_)
        · rw [if_neg c10] at hf
          refine g_aload_n C 0 dX11_walk_49 rfl ?_
          refine fg_X11_118_20 C dX11_walk_50 ?_
          refine g_sipush C dX11_walk_53 (v := 999) (by decide) ?_
          refine g_icmp_ne (tgt := 62) C dX11_walk_56 (by decide) (fun c11 => ?_) (fun c11 => ?_)
          · rw [if_neg c11] at hf
            refine g_aload_n C 0 dX11_walk_62 rfl ?_
            refine g_iload_n C 1 dX11_walk_63 rfl ?_
            refine g_aload_n C 0 dX11_walk_64 rfl ?_
            refine fg_X11_22_20 C dX11_walk_65 ?_
            refine g_aload_n C 0 dX11_walk_68 rfl ?_
            refine fg_X11_135_20 C dX11_walk_69 ?_
            obtain ⟨σ13, h12, hf⟩ := o_bind hf
            refine g_callV C 20 (c_X11_goStreet l E 25 8 ar_25 h12) cls_10 k_X11_199 ⟨rfl, rfl, Nat.le_of_ble_eq_true rfl, Nat.le_of_ble_eq_true rfl⟩ (by decide) rfl rfl (Nat.le_of_ble_eq_true rfl) dX11_walk_72 _ rfl ?_
            refine g_aload_n C 0 dX11_walk_75 rfl ?_
            refine g_aload_n C 0 dX11_walk_76 rfl ?_
            refine g_iload_n C 1 dX11_walk_77 rfl ?_
            refine g_aload_n C 0 dX11_walk_78 rfl ?_
            refine fg_X11_111_20 C dX11_walk_79 ?_
            obtain ⟨r15, h14, hf⟩ := o_bind hf
            refine g_callV C 20 (c_X11_otherEnd l E h14) cls_10 k_X11_231 ⟨rfl, rfl, Nat.le_of_ble_eq_true rfl, Nat.le_of_ble_eq_true rfl⟩ (by decide) rfl rfl (Nat.le_of_ble_eq_true rfl) dX11_walk_82 _ rfl ?_
            obtain ⟨σ16, hσ16, hf⟩ := o_let hf
            refine fp_X11_111_20 C dX11_walk_85 hσ16 ?_
            refine g_aload_n C 0 dX11_walk_88 rfl ?_
            refine g_dup C dX11_walk_89 rfl ?_
            refine fg_X11_118_20 C dX11_walk_90 ?_
            refine g_iconst C dX11_walk_93 (v := 1) (by decide) ?_
            refine g_iadd C dX11_walk_94 ?_
            obtain ⟨σ17, hσ17, hf⟩ := o_let hf
            refine fp_X11_118_20 C dX11_walk_95 hσ17 ?_
            refine g_aload_n C 0 dX11_walk_98 rfl ?_
            refine fg_X11_19_20 C dX11_walk_99 ?_
            refine g_iload_n C 1 dX11_walk_102 rfl ?_
            refine g_dup2 C dX11_walk_103 rfl rfl ?_
            obtain ⟨h18, hf⟩ := o_if hf
            refine g_ald C ar_24 dX11_walk_104 (k := p0.toNatClampNeg) rfl h18 ?_
            refine g_iconst C dX11_walk_105 (v := 1) (by decide) ?_
            refine g_iadd C dX11_walk_106 ?_
            obtain ⟨h20, hf⟩ := o_if hf
            obtain ⟨σ19, hσ19, hf⟩ := o_let hf
            refine g_ast C ar_24 dX11_walk_107 (k := p0.toNatClampNeg) rfl h20 hσ19 ?_
            refine g_aload_n C 0 dX11_walk_108 rfl ?_
            refine fg_X11_111_20 C dX11_walk_109 ?_
            exact g_iretW C hR hf dX11_walk_112
          · rw [if_pos c11] at hf
            refine g_bipush C dX11_walk_59 (v := (-104)) (by decide) ?_
            exact g_iretW C hR hf dX11_walk_61
        · rw [if_pos c10] at hf
          refine g_bipush C dX11_walk_46 (v := (-103)) (by decide) ?_
          exact g_iretW C hR hf dX11_walk_48
  · rw [if_pos c3] at hf
    refine g_bipush C dX11_walk_8 (v := (-101)) (by decide) ?_
    exact g_iretW C hR hf dX11_walk_10
abbrev rm_X11_stand : Room := { frames := 1, cells := 0, slots := 0, locals := 25 }
set_option maxRecDepth 100000 in
set_option maxHeartbeats 4000000 in
theorem c_X11_stand (l : Launch) (E : EV) {σ ss : ST} {p0 : Int32} {rr : Int32} (hf : f_X11_stand p0 σ = some (rr, ss)) : CT l E yX11_stand cX11_stand 3 (some .int) rm_X11_stand [.ref (E.2.1 20), .int p0] σ (some (.int rr)) ss := by
  refine CT.of RX11 rfl (by decide) (Nat.le_of_ble_eq_true rfl) rfl rfl (fun Γ C hR => ?_)
  show GW Γ 3 E σ 0 [(0, .ref (E.2.1 20)), (1, .int p0)] []
  rw [f_X11_stand] at hf
  refine g_aload_n C 0 dX11_stand_0 rfl ?_
  obtain ⟨r2, h1, hf⟩ := o_bind hf
  refine g_callV C 20 (c_X11_lacks l E h1) cls_10 k_X11_234 ⟨rfl, rfl, Nat.le_of_ble_eq_true rfl, Nat.le_of_ble_eq_true rfl⟩ (by decide) rfl rfl (Nat.le_of_ble_eq_true rfl) dX11_stand_1 _ rfl ?_
  refine g_if_ne (y := 0) (tgt := 23) C dX11_stand_4 (by decide) (fun c3 => ?_) (fun c3 => ?_)
  · rw [if_neg c3] at hf
    refine g_bipush C dX11_stand_23 (v := (-101)) (by decide) ?_
    exact g_iretW C hR hf dX11_stand_25
  · rw [if_pos c3] at hf
    refine g_iload_n C 1 dX11_stand_7 rfl ?_
    refine g_i2l C dX11_stand_8 ?_
    refine g_lconst C dX11_stand_9 (v := 0) (by decide) ?_
    refine g_aload_n C 0 dX11_stand_10 rfl ?_
    refine fg_X11_105_20 C dX11_stand_11 ?_
    refine g_iconst C dX11_stand_14 (v := 1) (by decide) ?_
    refine g_isub C dX11_stand_15 ?_
    refine g_i2l C dX11_stand_16 ?_
    obtain ⟨r5, h4, hf⟩ := o_bind hf
    refine g_callS C (c_X11_in l E h4) k_X11_73 ⟨rfl, rfl, Nat.le_of_ble_eq_true rfl, Nat.le_of_ble_eq_true rfl⟩ rfl (Nat.le_of_ble_eq_true rfl) dX11_stand_17 _ rfl ?_
    refine g_if_ne (y := 0) (tgt := 26) C dX11_stand_20 (by decide) (fun c6 => ?_) (fun c6 => ?_)
    · rw [if_neg c6] at hf
      refine g_aload_n C 0 dX11_stand_26 rfl ?_
      refine fg_X11_111_20 C dX11_stand_27 ?_
      obtain ⟨x7, hx7, hf⟩ := o_let hf
      refine g_topi hx7 ?_
      refine g_istore_n C dX11_stand_30 (by decide) [(2, .int x7), (0, .ref (E.2.1 20)), (1, .int p0)] rfl ?_
      refine g_aload_n C 1 dX11_stand_31 rfl ?_
      refine g_iload_n C 2 dX11_stand_32 rfl ?_
      obtain ⟨σ8, hσ8, hf⟩ := o_let hf
      refine fp_X11_111_20 C dX11_stand_33 hσ8 ?_
      refine g_iload_n C 0 dX11_stand_36 rfl ?_
      exact g_iretW C hR hf dX11_stand_37
    · rw [if_pos c6] at hf
      refine g_bipush C dX11_stand_23 (v := (-101)) (by decide) ?_
      exact g_iretW C hR hf dX11_stand_25
abbrev rm_X11_dusk : Room := { frames := 1, cells := 0, slots := 0, locals := 20 }
set_option maxRecDepth 100000 in
set_option maxHeartbeats 4000000 in
theorem t_X11_dusk_B23 {Γ : CX} {l : Launch} {E : EV} {rr : Int32} {ss : ST} (C : FX Γ l cX11_dusk 1 RX11 rm_X11_dusk E) (hR : RT Γ (some .int) E (some (.int rr)) ss) (s0 : Int32) (σ : ST) (hf : f_X11_dusk_B23 s0 σ = some (rr, ss)) : GW Γ 1 E σ 23 [(0, .ref (E.2.1 20))] [.int s0, .ref (E.2.1 20)] := by
  rw [f_X11_dusk_B23] at hf
  obtain ⟨h7, hf⟩ := o_if hf
  obtain ⟨σ6, hσ6, hf⟩ := o_let hf
  refine fp_X11_114_20 C dX11_dusk_23 h7 hσ6 ?_
  refine g_aload_n C 0 dX11_dusk_26 rfl ?_
  refine fg_X11_114_20 C dX11_dusk_27 ?_
  refine g_if_eq (y := 0) (tgt := 37) C dX11_dusk_30 (by decide) (fun c8 => ?_) (fun c8 => ?_)
  · rw [if_pos c8] at hf
    refine g_iconst C dX11_dusk_37 (v := 0) (by decide) ?_
    exact g_iretW C hR hf dX11_dusk_38
  · rw [if_neg c8] at hf
    refine g_iconst C dX11_dusk_33 (v := 1) (by decide) ?_
    refine g_goto (tgt := 38) C dX11_dusk_34 (by decide) ?_
    exact g_iretW C hR hf dX11_dusk_38
set_option maxRecDepth 100000 in
set_option maxHeartbeats 4000000 in
theorem c_X11_dusk (l : Launch) (E : EV) {σ ss : ST} {rr : Int32} (hf : f_X11_dusk σ = some (rr, ss)) : CT l E yX11_dusk cX11_dusk 1 (some .int) rm_X11_dusk [.ref (E.2.1 20)] σ (some (.int rr)) ss := by
  refine CT.of RX11 rfl (by decide) (Nat.le_of_ble_eq_true rfl) rfl rfl (fun Γ C hR => ?_)
  show GW Γ 1 E σ 0 [(0, .ref (E.2.1 20))] []
  rw [f_X11_dusk] at hf
  refine g_aload_n C 0 dX11_dusk_0 rfl ?_
  obtain ⟨r2, h1, hf⟩ := o_bind hf
  refine g_callV C 20 (c_X11_lacks l E h1) cls_10 k_X11_234 ⟨rfl, rfl, Nat.le_of_ble_eq_true rfl, Nat.le_of_ble_eq_true rfl⟩ (by decide) rfl rfl (Nat.le_of_ble_eq_true rfl) dX11_dusk_1 _ rfl ?_
  refine g_if_eq (y := 0) (tgt := 10) C dX11_dusk_4 (by decide) (fun c3 => ?_) (fun c3 => ?_)
  · rw [if_pos c3] at hf
    refine g_aload_n C 0 dX11_dusk_10 rfl ?_
    refine g_aload_n C 0 dX11_dusk_11 rfl ?_
    refine fg_X11_114_20 C dX11_dusk_12 ?_
    obtain ⟨x4, ex4, hf⟩ := o_let hf
    have Kx4 : GW Γ 1 E σ 23 [(0, .ref (E.2.1 20))] [.int x4, .ref (E.2.1 20)] := by
      exact t_X11_dusk_B23 C hR x4 σ hf
    refine g_if_ne (y := 0) (tgt := 22) C dX11_dusk_15 (by decide) (fun c5 => ?_) (fun c5 => ?_)
    · rw [if_neg c5] at ex4
      refine g_iconst C dX11_dusk_22 (v := 0) (by decide) ?_
      rw [← ex4] at Kx4
      exact g_lv [(0, .ref (E.2.1 20))] [0] rfl Kx4
    · rw [if_pos c5] at ex4
      refine g_iconst C dX11_dusk_18 (v := 1) (by decide) ?_
      refine g_goto (tgt := 23) C dX11_dusk_19 (by decide) ?_
      rw [← ex4] at Kx4
      exact g_lv [(0, .ref (E.2.1 20))] [0] rfl Kx4
  · rw [if_neg c3] at hf
    refine g_bipush C dX11_dusk_7 (v := (-103)) (by decide) ?_
    exact g_iretW C hR hf dX11_dusk_9
abbrev rm_X11_sing : Room := { frames := 2, cells := 0, slots := 0, locals := 46 }
set_option maxRecDepth 100000 in
set_option maxHeartbeats 4000000 in
theorem c_X11_sing (l : Launch) (E : EV) {σ ss : ST} {p0 : Int32} {p1 : Int32} {p2 : Int32} {rr : Int32} (hf : f_X11_sing p0 p1 p2 σ = some (rr, ss)) : CT l E yX11_sing cX11_sing 5 (some .int) rm_X11_sing [.ref (E.2.1 20), .int p0, .int p1, .int p2] σ (some (.int rr)) ss := by
  refine CT.of RX11 rfl (by decide) (Nat.le_of_ble_eq_true rfl) rfl rfl (fun Γ C hR => ?_)
  show GW Γ 5 E σ 0 [(0, .ref (E.2.1 20)), (1, .int p0), (2, .int p1), (3, .int p2)] []
  rw [f_X11_sing] at hf
  refine g_aload_n C 0 dX11_sing_0 rfl ?_
  refine g_iload_n C 1 dX11_sing_1 rfl ?_
  obtain ⟨r2, h1, hf⟩ := o_bind hf
  refine g_callV C 20 (c_X11_isTune l E h1) cls_10 k_X11_172 ⟨rfl, rfl, Nat.le_of_ble_eq_true rfl, Nat.le_of_ble_eq_true rfl⟩ (by decide) rfl rfl (Nat.le_of_ble_eq_true rfl) dX11_sing_2 _ rfl ?_
  refine g_if_eq (y := 0) (tgt := 25) C dX11_sing_5 (by decide) (fun c3 => ?_) (fun c3 => ?_)
  · rw [if_pos c3] at hf
    refine g_bipush C dX11_sing_25 (v := (-101)) (by decide) ?_
    exact g_iretW C hR hf dX11_sing_27
  · rw [if_neg c3] at hf
    refine g_iload_n C 2 dX11_sing_8 rfl ?_
    refine g_i2l C dX11_sing_9 ?_
    refine g_lconst C dX11_sing_10 (v := 0) (by decide) ?_
    refine g_aload_n C 0 dX11_sing_11 rfl ?_
    refine g_iload_n C 1 dX11_sing_12 rfl ?_
    obtain ⟨r5, h4, hf⟩ := o_bind hf
    refine g_callV C 20 (c_X11_manyOf l E h4) cls_10 k_X11_141 ⟨rfl, rfl, Nat.le_of_ble_eq_true rfl, Nat.le_of_ble_eq_true rfl⟩ (by decide) rfl rfl (Nat.le_of_ble_eq_true rfl) dX11_sing_13 _ rfl ?_
    refine g_iconst C dX11_sing_16 (v := 1) (by decide) ?_
    refine g_isub C dX11_sing_17 ?_
    refine g_i2l C dX11_sing_18 ?_
    obtain ⟨r7, h6, hf⟩ := o_bind hf
    refine g_callS C (c_X11_in l E h6) k_X11_73 ⟨rfl, rfl, Nat.le_of_ble_eq_true rfl, Nat.le_of_ble_eq_true rfl⟩ rfl (Nat.le_of_ble_eq_true rfl) dX11_sing_19 _ rfl ?_
    refine g_if_ne (y := 0) (tgt := 28) C dX11_sing_22 (by decide) (fun c8 => ?_) (fun c8 => ?_)
    · rw [if_neg c8] at hf
      refine g_iload_n C 3 dX11_sing_28 rfl ?_
      obtain ⟨r10, h9, hf⟩ := o_bind hf
      refine g_callS C (c_X11_isNote l E h9) k_X11_188 ⟨rfl, rfl, Nat.le_of_ble_eq_true rfl, Nat.le_of_ble_eq_true rfl⟩ rfl (Nat.le_of_ble_eq_true rfl) dX11_sing_29 _ rfl ?_
      refine g_if_ne (y := 0) (tgt := 38) C dX11_sing_32 (by decide) (fun c11 => ?_) (fun c11 => ?_)
      · rw [if_neg c11] at hf
        refine g_aload_n C 0 dX11_sing_38 rfl ?_
        refine g_iload_n C 1 dX11_sing_39 rfl ?_
        refine g_iload_n C 2 dX11_sing_40 rfl ?_
        obtain ⟨r13, h12, hf⟩ := o_bind hf
        refine g_callV C 20 (c_X11_noteAt l E h12) cls_10 k_X11_148 ⟨rfl, rfl, Nat.le_of_ble_eq_true rfl, Nat.le_of_ble_eq_true rfl⟩ (by decide) rfl rfl (Nat.le_of_ble_eq_true rfl) dX11_sing_41 _ rfl ?_
        refine g_istore C dX11_sing_44 (by decide) [(4, .int r13), (0, .ref (E.2.1 20)), (1, .int p0), (2, .int p1), (3, .int p2)] rfl ?_
        refine g_iload_n C 2 dX11_sing_46 rfl ?_
        refine g_if_ne (y := 0) (tgt := 60) C dX11_sing_47 (by decide) (fun c14 => ?_) (fun c14 => ?_)
        · rw [if_neg c14] at hf
          refine g_aload_n C 1 dX11_sing_60 rfl ?_
          refine fg_X11_25_20 C dX11_sing_61 ?_
          refine g_iload_n C 3 dX11_sing_64 rfl ?_
          refine g_iload_n C 4 dX11_sing_65 rfl ?_
          obtain ⟨h16, hf⟩ := o_if hf
          obtain ⟨σ15, hσ15, hf⟩ := o_let hf
          refine g_ast C ar_26 dX11_sing_66 (k := p1.toNatClampNeg) rfl h16 hσ15 ?_
          refine g_iload C 0 dX11_sing_67 rfl ?_
          exact g_iretW C hR hf dX11_sing_69
        · rw [if_pos c14] at hf
          refine g_aload_n C 1 dX11_sing_50 rfl ?_
          refine fg_X11_22_20 C dX11_sing_51 ?_
          refine g_iload_n C 3 dX11_sing_54 rfl ?_
          refine g_iload_n C 4 dX11_sing_55 rfl ?_
          obtain ⟨h18, hf⟩ := o_if hf
          obtain ⟨σ17, hσ17, hf⟩ := o_let hf
          refine g_ast C ar_25 dX11_sing_56 (k := p1.toNatClampNeg) rfl h18 hσ17 ?_
          refine g_goto (tgt := 67) C dX11_sing_57 (by decide) ?_
          refine g_iload C 0 dX11_sing_67 rfl ?_
          exact g_iretW C hR hf dX11_sing_69
      · rw [if_pos c11] at hf
        refine g_bipush C dX11_sing_35 (v := (-102)) (by decide) ?_
        exact g_iretW C hR hf dX11_sing_37
    · rw [if_pos c8] at hf
      refine g_bipush C dX11_sing_25 (v := (-101)) (by decide) ?_
      exact g_iretW C hR hf dX11_sing_27
abbrev rm_X11_raise : Room := { frames := 2, cells := 0, slots := 0, locals := 46 }
set_option maxRecDepth 100000 in
set_option maxHeartbeats 4000000 in
theorem c_X11_raise (l : Launch) (E : EV) {σ ss : ST} {p0 : Int32} {p1 : Int32} {rr : Int32} (hf : f_X11_raise p0 p1 σ = some (rr, ss)) : CT l E yX11_raise cX11_raise 4 (some .int) rm_X11_raise [.ref (E.2.1 20), .int p0, .int p1] σ (some (.int rr)) ss := by
  refine CT.of RX11 rfl (by decide) (Nat.le_of_ble_eq_true rfl) rfl rfl (fun Γ C hR => ?_)
  show GW Γ 4 E σ 0 [(0, .ref (E.2.1 20)), (1, .int p0), (2, .int p1)] []
  rw [f_X11_raise] at hf
  refine g_aload_n C 0 dX11_raise_0 rfl ?_
  refine g_iload_n C 1 dX11_raise_1 rfl ?_
  obtain ⟨r2, h1, hf⟩ := o_bind hf
  refine g_callV C 20 (c_X11_isStreet l E h1) cls_10 k_X11_185 ⟨rfl, rfl, Nat.le_of_ble_eq_true rfl, Nat.le_of_ble_eq_true rfl⟩ (by decide) rfl rfl (Nat.le_of_ble_eq_true rfl) dX11_raise_2 _ rfl ?_
  refine g_if_ne (y := 0) (tgt := 11) C dX11_raise_5 (by decide) (fun c3 => ?_) (fun c3 => ?_)
  · rw [if_neg c3] at hf
    refine g_iload_n C 2 dX11_raise_11 rfl ?_
    obtain ⟨r5, h4, hf⟩ := o_bind hf
    refine g_callS C (c_X11_isNote l E h4) k_X11_188 ⟨rfl, rfl, Nat.le_of_ble_eq_true rfl, Nat.le_of_ble_eq_true rfl⟩ rfl (Nat.le_of_ble_eq_true rfl) dX11_raise_12 _ rfl ?_
    refine g_if_ne (y := 0) (tgt := 21) C dX11_raise_15 (by decide) (fun c6 => ?_) (fun c6 => ?_)
    · rw [if_neg c6] at hf
      refine g_aload_n C 0 dX11_raise_21 rfl ?_
      refine fg_X11_16_20 C dX11_raise_22 ?_
      refine g_iload_n C 1 dX11_raise_25 rfl ?_
      obtain ⟨h7, hf⟩ := o_if hf
      refine g_ald C ar_23 dX11_raise_26 (k := p0.toNatClampNeg) rfl h7 ?_
      obtain ⟨x8, hx8, hf⟩ := o_let hf
      refine g_topi hx8 ?_
      refine g_istore_n C dX11_raise_27 (by decide) [(3, .int x8), (0, .ref (E.2.1 20)), (1, .int p0), (2, .int p1)] rfl ?_
      refine g_aload_n C 1 dX11_raise_28 rfl ?_
      refine fg_X11_16_20 C dX11_raise_29 ?_
      refine g_iload_n C 2 dX11_raise_32 rfl ?_
      refine g_iload_n C 3 dX11_raise_33 rfl ?_
      obtain ⟨h10, hf⟩ := o_if hf
      obtain ⟨σ9, hσ9, hf⟩ := o_let hf
      refine g_ast C ar_23 dX11_raise_34 (k := p0.toNatClampNeg) rfl h10 hσ9 ?_
      refine g_iload_n C 0 dX11_raise_35 rfl ?_
      exact g_iretW C hR hf dX11_raise_36
    · rw [if_pos c6] at hf
      refine g_bipush C dX11_raise_18 (v := (-102)) (by decide) ?_
      exact g_iretW C hR hf dX11_raise_20
  · rw [if_pos c3] at hf
    refine g_bipush C dX11_raise_8 (v := (-101)) (by decide) ?_
    exact g_iretW C hR hf dX11_raise_10
abbrev rm_X11_beginWalk : Room := { frames := 0, cells := 0, slots := 0, locals := 0 }
set_option maxRecDepth 100000 in
set_option maxHeartbeats 4000000 in
theorem t_X11_beginWalk_L2 {Γ : CX} {l : Launch} {E : EV} {ss : ST} (C : FX Γ l cX11_beginWalk 2 RX11 rm_X11_beginWalk E) (hR : RT Γ none E none ss) : ∀ (n : Nat) (v1 : Int32) (σ : ST), f_X11_beginWalk_L2 n v1 σ = some ss → GW Γ 2 E σ 2 [(0, .ref (E.2.1 20)), (1, .int v1)] [] := by
  intro n
  induction n with
  | zero => intro v1 σ hf; exact nomatch hf
  | succ n ih =>
    intro v1 σ hf
    rw [f_X11_beginWalk_L2] at hf
    refine g_iload_n C 1 dX11_beginWalk_2 rfl ?_
    refine g_bipush C dX11_beginWalk_3 (v := 8) (by decide) ?_
    refine g_icmp_ge (tgt := 26) C dX11_beginWalk_5 (by decide) (fun c1 => ?_) (fun c1 => ?_)
    · rw [if_pos c1] at hf
      refine g_aload_n C 0 dX11_beginWalk_26 rfl ?_
      refine fg_X11_37_20 C dX11_beginWalk_27 ?_
      refine g_iconst C dX11_beginWalk_30 (v := 0) (by decide) ?_
      refine g_aload_n C 0 dX11_beginWalk_31 rfl ?_
      refine fg_X11_111_20 C dX11_beginWalk_32 ?_
      obtain ⟨σ2, hσ2, hf⟩ := o_let hf
      refine g_ast C ar_30 dX11_beginWalk_35 (k := 0) (by decide) (by decide) hσ2 ?_
      exact g_vretW C hR hf dX11_beginWalk_36
    · rw [if_neg c1] at hf
      refine g_aload_n C 0 dX11_beginWalk_8 rfl ?_
      refine fg_X11_34_20 C dX11_beginWalk_9 ?_
      refine g_iload_n C 1 dX11_beginWalk_12 rfl ?_
      refine g_aload_n C 0 dX11_beginWalk_13 rfl ?_
      refine fg_X11_22_20 C dX11_beginWalk_14 ?_
      refine g_iload_n C 1 dX11_beginWalk_17 rfl ?_
      obtain ⟨h3, hf⟩ := o_if hf
      refine g_ald C ar_25 dX11_beginWalk_18 (k := v1.toNatClampNeg) rfl h3 ?_
      obtain ⟨h5, hf⟩ := o_if hf
      obtain ⟨σ4, hσ4, hf⟩ := o_let hf
      refine g_ast C ar_29 dX11_beginWalk_19 (k := v1.toNatClampNeg) rfl h5 hσ4 ?_
      obtain ⟨x6, hx6, hf⟩ := o_let hf
      refine g_iinc C 1 dX11_beginWalk_20 rfl hx6 (by decide) [(1, .int x6), (0, .ref (E.2.1 20))] rfl ?_
      refine g_goto (tgt := 2) C dX11_beginWalk_23 (by decide) ?_
      exact g_lv [(0, .ref (E.2.1 20)), (1, .int x6)] [1, 0] rfl (ih x6 σ4 hf)
set_option maxRecDepth 100000 in
set_option maxHeartbeats 4000000 in
theorem c_X11_beginWalk (l : Launch) (E : EV) {σ ss : ST} (hf : f_X11_beginWalk σ = some ss) : CT l E yX11_beginWalk cX11_beginWalk 2 none rm_X11_beginWalk [.ref (E.2.1 20)] σ none ss := by
  refine CT.of RX11 rfl (by decide) (Nat.le_of_ble_eq_true rfl) rfl rfl (fun Γ C hR => ?_)
  show GW Γ 2 E σ 0 [(0, .ref (E.2.1 20))] []
  rw [f_X11_beginWalk] at hf
  refine g_iconst C dX11_beginWalk_0 (v := 0) (by decide) ?_
  refine g_istore_n C dX11_beginWalk_1 (by decide) [(1, .int 0), (0, .ref (E.2.1 20))] rfl ?_
  exact g_lv [(0, .ref (E.2.1 20)), (1, .int 0)] [1, 0] rfl (t_X11_beginWalk_L2 C hR fuel 0 σ hf)
abbrev rm_X11_goOn : Room := { frames := 4, cells := 0, slots := 0, locals := 91 }
set_option maxRecDepth 100000 in
set_option maxHeartbeats 4000000 in
theorem t_X11_goOn_B110 {Γ : CX} {l : Launch} {E : EV} {rr : Int32} {ss : ST} (C : FX Γ l cX11_goOn 4 RX11 rm_X11_goOn E) (hR : RT Γ (some .boolean) E (some (.int rr)) ss) (v1 : Int32) (v2 : Int32) (σ : ST) (hf : f_X11_goOn_B110 v1 v2 σ = some (rr, ss)) : GW Γ 4 E σ 110 [(0, .ref (E.2.1 20)), (1, .int v1), (2, .int v2)] [] := by
  rw [f_X11_goOn_B110] at hf
  refine g_aload_n C 0 dX11_goOn_110 rfl ?_
  refine fg_X11_37_20 C dX11_goOn_111 ?_
  refine g_iload_n C 1 dX11_goOn_114 rfl ?_
  refine g_iconst C dX11_goOn_115 (v := 1) (by decide) ?_
  refine g_iadd C dX11_goOn_116 ?_
  refine g_aload_n C 0 dX11_goOn_117 rfl ?_
  refine g_iload_n C 2 dX11_goOn_118 rfl ?_
  refine g_aload_n C 0 dX11_goOn_119 rfl ?_
  refine fg_X11_37_20 C dX11_goOn_120 ?_
  refine g_iload_n C 1 dX11_goOn_123 rfl ?_
  obtain ⟨h12, hf⟩ := o_if hf
  refine g_ald C ar_30 dX11_goOn_124 (k := v1.toNatClampNeg) rfl h12 ?_
  obtain ⟨r14, h13, hf⟩ := o_bind hf
  refine g_callV C 20 (c_X11_otherEnd l E h13) cls_10 k_X11_231 ⟨rfl, rfl, Nat.le_of_ble_eq_true rfl, Nat.le_of_ble_eq_true rfl⟩ (by decide) rfl rfl (Nat.le_of_ble_eq_true rfl) dX11_goOn_125 _ rfl ?_
  obtain ⟨h16, hf⟩ := o_if hf
  obtain ⟨σ15, hσ15, hf⟩ := o_let hf
  refine g_ast C ar_30 dX11_goOn_128 (k := (v1 + 1).toNatClampNeg) rfl h16 hσ15 ?_
  refine g_iconst C dX11_goOn_129 (v := 1) (by decide) ?_
  exact g_zretW C hR hf (by decide) dX11_goOn_130
set_option maxRecDepth 100000 in
set_option maxHeartbeats 4000000 in
theorem t_X11_goOn_L78 {Γ : CX} {l : Launch} {E : EV} {rr : Int32} {ss : ST} (C : FX Γ l cX11_goOn 4 RX11 rm_X11_goOn E) (hR : RT Γ (some .boolean) E (some (.int rr)) ss) : ∀ (n : Nat) (v1 : Int32) (v2 : Int32) (v3 : Int32) (σ : ST), f_X11_goOn_L78 n v1 v2 v3 σ = some (rr, ss) → GW Γ 4 E σ 78 [(0, .ref (E.2.1 20)), (1, .int v1), (2, .int v2), (3, .int v3)] [] := by
  intro n
  induction n with
  | zero => intro v1 v2 v3 σ hf; exact nomatch hf
  | succ n ih =>
    intro v1 v2 v3 σ hf
    rw [f_X11_goOn_L78] at hf
    refine g_iload_n C 3 dX11_goOn_78 rfl ?_
    refine g_bipush C dX11_goOn_79 (v := 8) (by decide) ?_
    refine g_icmp_ge (tgt := 110) C dX11_goOn_81 (by decide) (fun c11 => ?_) (fun c11 => ?_)
    · rw [if_pos c11] at hf
      exact g_lv [(0, .ref (E.2.1 20)), (1, .int v1), (2, .int v2)] [0, 1, 2] rfl (t_X11_goOn_B110 C hR v1 v2 σ hf)
    · rw [if_neg c11] at hf
      refine g_aload_n C 0 dX11_goOn_84 rfl ?_
      refine fg_X11_34_20 C dX11_goOn_85 ?_
      refine g_bipush C dX11_goOn_88 (v := 8) (by decide) ?_
      refine g_iload_n C 1 dX11_goOn_90 rfl ?_
      refine g_imul C dX11_goOn_91 ?_
      refine g_bipush C dX11_goOn_92 (v := 8) (by decide) ?_
      refine g_iadd C dX11_goOn_94 ?_
      refine g_iload_n C 3 dX11_goOn_95 rfl ?_
      refine g_iadd C dX11_goOn_96 ?_
      refine g_aload_n C 0 dX11_goOn_97 rfl ?_
      refine fg_X11_31_20 C dX11_goOn_98 ?_
      refine g_iload_n C 3 dX11_goOn_101 rfl ?_
      obtain ⟨h17, hf⟩ := o_if hf
      refine g_ald C ar_28 dX11_goOn_102 (k := v3.toNatClampNeg) rfl h17 ?_
      obtain ⟨h19, hf⟩ := o_if hf
      obtain ⟨σ18, hσ18, hf⟩ := o_let hf
      refine g_ast C ar_29 dX11_goOn_103 (k := (((8 * v1) + 8) + v3).toNatClampNeg) rfl h19 hσ18 ?_
      obtain ⟨x20, hx20, hf⟩ := o_let hf
      refine g_iinc C 3 dX11_goOn_104 rfl hx20 (by decide) [(3, .int x20), (0, .ref (E.2.1 20)), (1, .int v1), (2, .int v2)] rfl ?_
      refine g_goto (tgt := 78) C dX11_goOn_107 (by decide) ?_
      exact g_lv [(0, .ref (E.2.1 20)), (1, .int v1), (2, .int v2), (3, .int x20)] [1, 2, 3, 0] rfl (ih v1 v2 x20 σ18 hf)
set_option maxRecDepth 100000 in
set_option maxHeartbeats 4000000 in
theorem t_X11_goOn_B31 {Γ : CX} {l : Launch} {E : EV} {rr : Int32} {ss : ST} (C : FX Γ l cX11_goOn 4 RX11 rm_X11_goOn E) (hR : RT Γ (some .boolean) E (some (.int rr)) ss) (v1 : Int32) (v2 : Int32) (σ : ST) (hf : f_X11_goOn_B31 v1 v2 σ = some (rr, ss)) : GW Γ 4 E σ 31 [(0, .ref (E.2.1 20)), (1, .int v1), (2, .int v2)] [] := by
  rw [f_X11_goOn_B31] at hf
  refine g_aload_n C 0 dX11_goOn_31 rfl ?_
  refine g_iload_n C 2 dX11_goOn_32 rfl ?_
  refine g_aload_n C 0 dX11_goOn_33 rfl ?_
  refine fg_X11_37_20 C dX11_goOn_34 ?_
  refine g_iload_n C 1 dX11_goOn_37 rfl ?_
  obtain ⟨h2, hf⟩ := o_if hf
  refine g_ald C ar_30 dX11_goOn_38 (k := v1.toNatClampNeg) rfl h2 ?_
  obtain ⟨r4, h3, hf⟩ := o_bind hf
  refine g_callV C 20 (c_X11_endsAt l E h3) cls_10 k_X11_224 ⟨rfl, rfl, Nat.le_of_ble_eq_true rfl, Nat.le_of_ble_eq_true rfl⟩ (by decide) rfl rfl (Nat.le_of_ble_eq_true rfl) dX11_goOn_39 _ rfl ?_
  refine g_if_eq (y := 0) (tgt := 61) C dX11_goOn_42 (by decide) (fun c5 => ?_) (fun c5 => ?_)
  · rw [if_pos c5] at hf
    refine g_iconst C dX11_goOn_61 (v := 0) (by decide) ?_
    exact g_zretW C hR hf (by decide) dX11_goOn_62
  · rw [if_neg c5] at hf
    refine g_aload_n C 0 dX11_goOn_45 rfl ?_
    refine g_iload_n C 2 dX11_goOn_46 rfl ?_
    refine g_aload_n C 0 dX11_goOn_47 rfl ?_
    refine fg_X11_31_20 C dX11_goOn_48 ?_
    refine g_aload_n C 0 dX11_goOn_51 rfl ?_
    refine fg_X11_135_20 C dX11_goOn_52 ?_
    obtain ⟨r7, h6, hf⟩ := o_bind hf
    refine g_callV C 20 (c_X11_isOpen l E 28 8 ar_28 h6) cls_10 k_X11_227 ⟨rfl, rfl, Nat.le_of_ble_eq_true rfl, Nat.le_of_ble_eq_true rfl⟩ (by decide) rfl rfl (Nat.le_of_ble_eq_true rfl) dX11_goOn_55 _ rfl ?_
    refine g_if_ne (y := 0) (tgt := 63) C dX11_goOn_58 (by decide) (fun c8 => ?_) (fun c8 => ?_)
    · rw [if_neg c8] at hf
      refine g_aload_n C 0 dX11_goOn_63 rfl ?_
      refine g_iload_n C 2 dX11_goOn_64 rfl ?_
      refine g_aload_n C 0 dX11_goOn_65 rfl ?_
      refine fg_X11_31_20 C dX11_goOn_66 ?_
      refine g_aload_n C 0 dX11_goOn_69 rfl ?_
      refine fg_X11_135_20 C dX11_goOn_70 ?_
      obtain ⟨σ10, h9, hf⟩ := o_bind hf
      refine g_callV C 20 (c_X11_goStreet l E 28 8 ar_28 h9) cls_10 k_X11_199 ⟨rfl, rfl, Nat.le_of_ble_eq_true rfl, Nat.le_of_ble_eq_true rfl⟩ (by decide) rfl rfl (Nat.le_of_ble_eq_true rfl) dX11_goOn_73 _ rfl ?_
      refine g_iconst C dX11_goOn_76 (v := 0) (by decide) ?_
      refine g_istore_n C dX11_goOn_77 (by decide) [(3, .int 0), (0, .ref (E.2.1 20)), (1, .int v1), (2, .int v2)] rfl ?_
      exact g_lv [(0, .ref (E.2.1 20)), (1, .int v1), (2, .int v2), (3, .int 0)] [1, 2, 3, 0] rfl (t_X11_goOn_L78 C hR fuel v1 v2 0 σ10 hf)
    · rw [if_pos c8] at hf
      refine g_iconst C dX11_goOn_61 (v := 0) (by decide) ?_
      exact g_zretW C hR hf (by decide) dX11_goOn_62
set_option maxRecDepth 100000 in
set_option maxHeartbeats 4000000 in
theorem t_X11_goOn_L2 {Γ : CX} {l : Launch} {E : EV} {rr : Int32} {ss : ST} (C : FX Γ l cX11_goOn 4 RX11 rm_X11_goOn E) (hR : RT Γ (some .boolean) E (some (.int rr)) ss) : ∀ (n : Nat) (v1 : Int32) (v2 : Int32) (v3 : Int32) (σ : ST), f_X11_goOn_L2 n v1 v2 v3 σ = some (rr, ss) → GW Γ 4 E σ 2 [(0, .ref (E.2.1 20)), (1, .int v1), (2, .int v2), (3, .int v3)] [] := by
  intro n
  induction n with
  | zero => intro v1 v2 v3 σ hf; exact nomatch hf
  | succ n ih =>
    intro v1 v2 v3 σ hf
    rw [f_X11_goOn_L2] at hf
    refine g_iload_n C 3 dX11_goOn_2 rfl ?_
    refine g_bipush C dX11_goOn_3 (v := 8) (by decide) ?_
    refine g_icmp_ge (tgt := 31) C dX11_goOn_5 (by decide) (fun c1 => ?_) (fun c1 => ?_)
    · rw [if_pos c1] at hf
      exact g_lv [(0, .ref (E.2.1 20)), (1, .int v1), (2, .int v2)] [0, 1, 2] rfl (t_X11_goOn_B31 C hR v1 v2 σ hf)
    · rw [if_neg c1] at hf
      refine g_aload_n C 0 dX11_goOn_8 rfl ?_
      refine fg_X11_31_20 C dX11_goOn_9 ?_
      refine g_iload_n C 3 dX11_goOn_12 rfl ?_
      refine g_aload_n C 0 dX11_goOn_13 rfl ?_
      refine fg_X11_34_20 C dX11_goOn_14 ?_
      refine g_bipush C dX11_goOn_17 (v := 8) (by decide) ?_
      refine g_iload_n C 1 dX11_goOn_19 rfl ?_
      refine g_imul C dX11_goOn_20 ?_
      refine g_iload_n C 3 dX11_goOn_21 rfl ?_
      refine g_iadd C dX11_goOn_22 ?_
      obtain ⟨h21, hf⟩ := o_if hf
      refine g_ald C ar_29 dX11_goOn_23 (k := ((8 * v1) + v3).toNatClampNeg) rfl h21 ?_
      obtain ⟨h23, hf⟩ := o_if hf
      obtain ⟨σ22, hσ22, hf⟩ := o_let hf
      refine g_ast C ar_28 dX11_goOn_24 (k := v3.toNatClampNeg) rfl h23 hσ22 ?_
      obtain ⟨x24, hx24, hf⟩ := o_let hf
      refine g_iinc C 3 dX11_goOn_25 rfl hx24 (by decide) [(3, .int x24), (0, .ref (E.2.1 20)), (1, .int v1), (2, .int v2)] rfl ?_
      refine g_goto (tgt := 2) C dX11_goOn_28 (by decide) ?_
      exact g_lv [(0, .ref (E.2.1 20)), (1, .int v1), (2, .int v2), (3, .int x24)] [1, 2, 3, 0] rfl (ih v1 v2 x24 σ22 hf)
set_option maxRecDepth 100000 in
set_option maxHeartbeats 4000000 in
theorem c_X11_goOn (l : Launch) (E : EV) {σ ss : ST} {p0 : Int32} {p1 : Int32} {rr : Int32} (hf : f_X11_goOn p0 p1 σ = some (rr, ss)) : CT l E yX11_goOn cX11_goOn 4 (some .boolean) rm_X11_goOn [.ref (E.2.1 20), .int p0, .int p1] σ (some (.int rr)) ss := by
  refine CT.of RX11 rfl (by decide) (Nat.le_of_ble_eq_true rfl) rfl rfl (fun Γ C hR => ?_)
  show GW Γ 4 E σ 0 [(0, .ref (E.2.1 20)), (1, .int p0), (2, .int p1)] []
  rw [f_X11_goOn] at hf
  refine g_iconst C dX11_goOn_0 (v := 0) (by decide) ?_
  refine g_istore_n C dX11_goOn_1 (by decide) [(3, .int 0), (0, .ref (E.2.1 20)), (1, .int p0), (2, .int p1)] rfl ?_
  exact g_lv [(0, .ref (E.2.1 20)), (1, .int p0), (2, .int p1), (3, .int 0)] [1, 2, 3, 0] rfl (t_X11_goOn_L2 C hR fuel p0 p1 0 σ hf)
abbrev rm_X11_isThere : Room := { frames := 0, cells := 0, slots := 0, locals := 0 }
set_option maxRecDepth 100000 in
set_option maxHeartbeats 4000000 in
theorem t_X11_isThere_L19 {Γ : CX} {l : Launch} {E : EV} {σ : ST} {rr : Int32} (C : FX Γ l cX11_isThere 4 RX11 rm_X11_isThere E) (hR : RT Γ (some .boolean) E (some (.int rr)) σ) : ∀ (n : Nat) (v1 : Int32) (v2 : Int32) (v3 : Int32), f_X11_isThere_L19 σ n v1 v2 v3 = some rr → GW Γ 4 E σ 19 [(0, .ref (E.2.1 20)), (1, .int v1), (2, .int v2), (3, .int v3)] [] := by
  intro n
  induction n with
  | zero => intro v1 v2 v3 hf; exact nomatch hf
  | succ n ih =>
    intro v1 v2 v3 hf
    rw [f_X11_isThere_L19] at hf
    refine g_iload_n C 3 dX11_isThere_19 rfl ?_
    refine g_aload_n C 0 dX11_isThere_20 rfl ?_
    refine fg_X11_135_20 C dX11_isThere_21 ?_
    refine g_icmp_ge (tgt := 63) C dX11_isThere_24 (by decide) (fun c3 => ?_) (fun c3 => ?_)
    · rw [if_pos c3] at hf
      refine g_iload_n C 2 dX11_isThere_63 rfl ?_
      obtain ⟨hz, hf⟩ := o_if hf
      exact g_zretR C hR hf hz dX11_isThere_64
    · rw [if_neg c3] at hf
      refine g_iload_n C 2 dX11_isThere_27 rfl ?_
      refine g_if_eq (y := 0) (tgt := 63) C dX11_isThere_28 (by decide) (fun c4 => ?_) (fun c4 => ?_)
      · rw [if_pos c4] at hf
        refine g_iload_n C 2 dX11_isThere_63 rfl ?_
        obtain ⟨hz, hf⟩ := o_if hf
        exact g_zretR C hR hf hz dX11_isThere_64
      · rw [if_neg c4] at hf
        refine g_aload_n C 0 dX11_isThere_31 rfl ?_
        refine fg_X11_34_20 C dX11_isThere_32 ?_
        refine g_bipush C dX11_isThere_35 (v := 8) (by decide) ?_
        refine g_iload_n C 1 dX11_isThere_37 rfl ?_
        refine g_imul C dX11_isThere_38 ?_
        refine g_iload_n C 3 dX11_isThere_39 rfl ?_
        refine g_iadd C dX11_isThere_40 ?_
        obtain ⟨h5, hf⟩ := o_if hf
        refine g_ald C ar_29 dX11_isThere_41 (k := ((8 * v1) + v3).toNatClampNeg) rfl h5 ?_
        refine g_aload_n C 0 dX11_isThere_42 rfl ?_
        refine fg_X11_25_20 C dX11_isThere_43 ?_
        refine g_iload_n C 3 dX11_isThere_46 rfl ?_
        obtain ⟨h6, hf⟩ := o_if hf
        refine g_ald C ar_26 dX11_isThere_47 (k := v3.toNatClampNeg) rfl h6 ?_
        obtain ⟨x7, ex7, hf⟩ := o_let hf
        have Kx7 : GW Γ 4 E σ 56 [(0, .ref (E.2.1 20)), (1, .int v1), (3, .int v3)] [.int x7] := by
          refine g_istore_n C dX11_isThere_56 (by decide) [(2, .int x7), (0, .ref (E.2.1 20)), (1, .int v1), (3, .int v3)] rfl ?_
          obtain ⟨x9, hx9, hf⟩ := o_let hf
          refine g_iinc C 3 dX11_isThere_57 rfl hx9 (by decide) [(3, .int x9), (2, .int x7), (0, .ref (E.2.1 20)), (1, .int v1)] rfl ?_
          refine g_goto (tgt := 19) C dX11_isThere_60 (by decide) ?_
          exact g_lv [(0, .ref (E.2.1 20)), (1, .int v1), (2, .int x7), (3, .int x9)] [2, 3, 1, 0] rfl (ih v1 x7 x9 hf)
        refine g_icmp_ne (tgt := 55) C dX11_isThere_48 (by decide) (fun c8 => ?_) (fun c8 => ?_)
        · rw [if_neg c8] at ex7
          refine g_iconst C dX11_isThere_55 (v := 0) (by decide) ?_
          rw [← ex7] at Kx7
          exact g_lv [(0, .ref (E.2.1 20)), (1, .int v1), (3, .int v3)] [0, 1, 3] rfl Kx7
        · rw [if_pos c8] at ex7
          refine g_iconst C dX11_isThere_51 (v := 1) (by decide) ?_
          refine g_goto (tgt := 56) C dX11_isThere_52 (by decide) ?_
          rw [← ex7] at Kx7
          exact g_lv [(0, .ref (E.2.1 20)), (1, .int v1), (3, .int v3)] [0, 1, 3] rfl Kx7
set_option maxRecDepth 100000 in
set_option maxHeartbeats 4000000 in
theorem t_X11_isThere_B16 {Γ : CX} {l : Launch} {E : EV} {σ : ST} {rr : Int32} (C : FX Γ l cX11_isThere 4 RX11 rm_X11_isThere E) (hR : RT Γ (some .boolean) E (some (.int rr)) σ) (v1 : Int32) (s0 : Int32) (hf : f_X11_isThere_B16 σ v1 s0 = some rr) : GW Γ 4 E σ 16 [(0, .ref (E.2.1 20)), (1, .int v1)] [.int s0] := by
  rw [f_X11_isThere_B16] at hf
  refine g_istore_n C dX11_isThere_16 (by decide) [(2, .int s0), (0, .ref (E.2.1 20)), (1, .int v1)] rfl ?_
  refine g_iconst C dX11_isThere_17 (v := 0) (by decide) ?_
  refine g_istore_n C dX11_isThere_18 (by decide) [(3, .int 0), (2, .int s0), (0, .ref (E.2.1 20)), (1, .int v1)] rfl ?_
  exact g_lv [(0, .ref (E.2.1 20)), (1, .int v1), (2, .int s0), (3, .int 0)] [2, 3, 1, 0] rfl (t_X11_isThere_L19 C hR fuel v1 s0 0 hf)
set_option maxRecDepth 100000 in
set_option maxHeartbeats 4000000 in
theorem c_X11_isThere (l : Launch) (E : EV) {σ : ST} {p0 : Int32} {rr : Int32} (hf : f_X11_isThere σ p0 = some rr) : CT l E yX11_isThere cX11_isThere 4 (some .boolean) rm_X11_isThere [.ref (E.2.1 20), .int p0] σ (some (.int rr)) σ := by
  refine CT.of RX11 rfl (by decide) (Nat.le_of_ble_eq_true rfl) rfl rfl (fun Γ C hR => ?_)
  show GW Γ 4 E σ 0 [(0, .ref (E.2.1 20)), (1, .int p0)] []
  rw [f_X11_isThere] at hf
  refine g_aload_n C 0 dX11_isThere_0 rfl ?_
  refine fg_X11_135_20 C dX11_isThere_1 ?_
  refine g_aload_n C 0 dX11_isThere_4 rfl ?_
  refine fg_X11_138_20 C dX11_isThere_5 ?_
  obtain ⟨x1, ex1, hf⟩ := o_let hf
  have Kx1 : GW Γ 4 E σ 16 [(0, .ref (E.2.1 20)), (1, .int p0)] [.int x1] := by
    exact t_X11_isThere_B16 C hR p0 x1 hf
  refine g_icmp_ne (tgt := 15) C dX11_isThere_8 (by decide) (fun c2 => ?_) (fun c2 => ?_)
  · rw [if_neg c2] at ex1
    refine g_iconst C dX11_isThere_15 (v := 0) (by decide) ?_
    rw [← ex1] at Kx1
    exact g_lv [(0, .ref (E.2.1 20)), (1, .int p0)] [0, 1] rfl Kx1
  · rw [if_pos c2] at ex1
    refine g_iconst C dX11_isThere_11 (v := 1) (by decide) ?_
    refine g_goto (tgt := 16) C dX11_isThere_12 (by decide) ?_
    rw [← ex1] at Kx1
    exact g_lv [(0, .ref (E.2.1 20)), (1, .int p0)] [0, 1] rfl Kx1
abbrev rm_X11_layWay : Room := { frames := 5, cells := 0, slots := 0, locals := 114 }
set_option maxRecDepth 100000 in
set_option maxHeartbeats 4000000 in
theorem t_X11_layWay_L13 {Γ : CX} {l : Launch} {E : EV} {rr : Int32} {ss : ST} (C : FX Γ l cX11_layWay 3 RX11 rm_X11_layWay E) (hR : RT Γ (some .boolean) E (some (.int rr)) ss) : ∀ (n : Nat) (v1 : Int32) (v2 : Int32) (σ : ST), f_X11_layWay_L13 n v1 v2 σ = some (rr, ss) → GW Γ 3 E σ 13 [(0, .ref (E.2.1 20)), (1, .int v1), (2, .int v2)] [] := by
  intro n
  induction n with
  | zero => intro v1 v2 σ hf; exact nomatch hf
  | succ n ih =>
    intro v1 v2 σ hf
    rw [f_X11_layWay_L13] at hf
    refine g_iload_n C 2 dX11_layWay_13 rfl ?_
    refine g_if_lt (y := 0) (tgt := 94) C dX11_layWay_14 (by decide) (fun c4 => ?_) (fun c4 => ?_)
    · rw [if_pos c4] at hf
      refine g_iconst C dX11_layWay_94 (v := 0) (by decide) ?_
      exact g_zretW C hR hf (by decide) dX11_layWay_95
    · rw [if_neg c4] at hf
      refine g_iload_n C 2 dX11_layWay_17 rfl ?_
      refine g_iload_n C 1 dX11_layWay_18 rfl ?_
      refine g_icmp_ne (tgt := 38) C dX11_layWay_19 (by decide) (fun c5 => ?_) (fun c5 => ?_)
      · rw [if_neg c5] at hf
        refine g_aload_n C 0 dX11_layWay_38 rfl ?_
        refine fg_X11_40_20 C dX11_layWay_39 ?_
        refine g_iload_n C 2 dX11_layWay_42 rfl ?_
        refine g_dup2 C dX11_layWay_43 rfl rfl ?_
        obtain ⟨h6, hf⟩ := o_if hf
        refine g_ald C ar_31 dX11_layWay_44 (k := v2.toNatClampNeg) rfl h6 ?_
        refine g_iconst C dX11_layWay_45 (v := 1) (by decide) ?_
        refine g_iadd C dX11_layWay_46 ?_
        obtain ⟨h8, hf⟩ := o_if hf
        obtain ⟨σ7, hσ7, hf⟩ := o_let hf
        refine g_ast C ar_31 dX11_layWay_47 (k := v2.toNatClampNeg) rfl h8 hσ7 ?_
        refine g_aload_n C 0 dX11_layWay_48 rfl ?_
        refine fg_X11_40_20 C dX11_layWay_49 ?_
        refine g_iload_n C 2 dX11_layWay_52 rfl ?_
        obtain ⟨h9, hf⟩ := o_if hf
        refine g_ald C ar_31 dX11_layWay_53 (k := v2.toNatClampNeg) rfl h9 ?_
        refine g_aload_n C 0 dX11_layWay_54 rfl ?_
        refine fg_X11_108_20 C dX11_layWay_55 ?_
        refine g_icmp_ne (tgt := 67) C dX11_layWay_58 (by decide) (fun c10 => ?_) (fun c10 => ?_)
        · rw [if_neg c10] at hf
          refine g_aload_n C 0 dX11_layWay_67 rfl ?_
          refine g_iload_n C 2 dX11_layWay_68 rfl ?_
          refine g_aload_n C 0 dX11_layWay_69 rfl ?_
          refine fg_X11_40_20 C dX11_layWay_70 ?_
          refine g_iload_n C 2 dX11_layWay_73 rfl ?_
          obtain ⟨h11, hf⟩ := o_if hf
          refine g_ald C ar_31 dX11_layWay_74 (k := v2.toNatClampNeg) rfl h11 ?_
          obtain ⟨r14, σ13, h12, hf⟩ := o_bind2 hf
          refine g_callV C 20 (c_X11_goOn l E h12) cls_10 k_X11_243 ⟨rfl, rfl, Nat.le_of_ble_eq_true rfl, Nat.le_of_ble_eq_true rfl⟩ (by decide) rfl rfl (Nat.le_of_ble_eq_true rfl) dX11_layWay_75 _ rfl ?_
          refine g_if_eq (y := 0) (tgt := 13) C dX11_layWay_78 (by decide) (fun c15 => ?_) (fun c15 => ?_)
          · rw [if_pos c15] at hf
            exact ih v1 v2 σ13 hf
          · rw [if_neg c15] at hf
            obtain ⟨x16, hx16, hf⟩ := o_let hf
            refine g_iinc C 2 dX11_layWay_81 rfl hx16 (by decide) [(2, .int x16), (0, .ref (E.2.1 20)), (1, .int v1)] rfl ?_
            refine g_aload_n C 1 dX11_layWay_84 rfl ?_
            refine fg_X11_40_20 C dX11_layWay_85 ?_
            refine g_iload_n C 0 dX11_layWay_88 rfl ?_
            refine g_iconst C dX11_layWay_89 (v := (-1)) (by decide) ?_
            obtain ⟨h18, hf⟩ := o_if hf
            obtain ⟨σ17, hσ17, hf⟩ := o_let hf
            refine g_ast C ar_31 dX11_layWay_90 (k := x16.toNatClampNeg) rfl h18 hσ17 ?_
            refine g_goto (tgt := 13) C dX11_layWay_91 (by decide) ?_
            exact g_lv [(0, .ref (E.2.1 20)), (1, .int v1), (2, .int x16)] [1, 2, 0] rfl (ih v1 x16 σ17 hf)
        · rw [if_pos c10] at hf
          obtain ⟨x19, hx19, hf⟩ := o_let hf
          refine g_iinc C 2 dX11_layWay_61 rfl hx19 (by decide) [(2, .int x19), (0, .ref (E.2.1 20)), (1, .int v1)] rfl ?_
          refine g_goto (tgt := 13) C dX11_layWay_64 (by decide) ?_
          exact g_lv [(0, .ref (E.2.1 20)), (1, .int v1), (2, .int x19)] [1, 2, 0] rfl (ih v1 x19 σ7 hf)
      · rw [if_pos c5] at hf
        refine g_aload_n C 0 dX11_layWay_22 rfl ?_
        refine g_iload_n C 2 dX11_layWay_23 rfl ?_
        obtain ⟨r21, h20, hf⟩ := o_bind hf
        refine g_callV C 20 (c_X11_isThere l E h20) cls_10 k_X11_240 ⟨rfl, rfl, Nat.le_of_ble_eq_true rfl, Nat.le_of_ble_eq_true rfl⟩ (by decide) rfl rfl (Nat.le_of_ble_eq_true rfl) dX11_layWay_24 _ rfl ?_
        refine g_if_eq (y := 0) (tgt := 32) C dX11_layWay_27 (by decide) (fun c22 => ?_) (fun c22 => ?_)
        · rw [if_pos c22] at hf
          obtain ⟨x23, hx23, hf⟩ := o_let hf
          refine g_iinc C 2 dX11_layWay_32 rfl hx23 (by decide) [(2, .int x23), (0, .ref (E.2.1 20)), (1, .int v1)] rfl ?_
          refine g_goto (tgt := 13) C dX11_layWay_35 (by decide) ?_
          exact g_lv [(0, .ref (E.2.1 20)), (1, .int v1), (2, .int x23)] [1, 2, 0] rfl (ih v1 x23 σ hf)
        · rw [if_neg c22] at hf
          refine g_iconst C dX11_layWay_30 (v := 1) (by decide) ?_
          exact g_zretW C hR hf (by decide) dX11_layWay_31
set_option maxRecDepth 100000 in
set_option maxHeartbeats 4000000 in
theorem c_X11_layWay (l : Launch) (E : EV) {σ ss : ST} {p0 : Int32} {rr : Int32} (hf : f_X11_layWay p0 σ = some (rr, ss)) : CT l E yX11_layWay cX11_layWay 3 (some .boolean) rm_X11_layWay [.ref (E.2.1 20), .int p0] σ (some (.int rr)) ss := by
  refine CT.of RX11 rfl (by decide) (Nat.le_of_ble_eq_true rfl) rfl rfl (fun Γ C hR => ?_)
  show GW Γ 3 E σ 0 [(0, .ref (E.2.1 20)), (1, .int p0)] []
  rw [f_X11_layWay] at hf
  refine g_aload_n C 0 dX11_layWay_0 rfl ?_
  obtain ⟨σ2, h1, hf⟩ := o_bind hf
  refine g_callV C 20 (c_X11_beginWalk l E h1) cls_10 k_X11_237 ⟨rfl, rfl, Nat.le_of_ble_eq_true rfl, Nat.le_of_ble_eq_true rfl⟩ (by decide) rfl rfl (Nat.le_of_ble_eq_true rfl) dX11_layWay_1 _ rfl ?_
  refine g_iconst C dX11_layWay_4 (v := 0) (by decide) ?_
  refine g_istore_n C dX11_layWay_5 (by decide) [(2, .int 0), (0, .ref (E.2.1 20)), (1, .int p0)] rfl ?_
  refine g_aload_n C 1 dX11_layWay_6 rfl ?_
  refine fg_X11_40_20 C dX11_layWay_7 ?_
  refine g_iconst C dX11_layWay_10 (v := 0) (by decide) ?_
  refine g_iconst C dX11_layWay_11 (v := (-1)) (by decide) ?_
  obtain ⟨σ3, hσ3, hf⟩ := o_let hf
  refine g_ast C ar_31 dX11_layWay_12 (k := 0) (by decide) (by decide) hσ3 ?_
  exact g_lv [(0, .ref (E.2.1 20)), (1, .int p0), (2, .int 0)] [1, 2, 0] rfl (t_X11_layWay_L13 C hR fuel p0 0 σ3 hf)
abbrev rm_X11_wayOf : Room := { frames := 6, cells := 0, slots := 0, locals := 136 }
set_option maxRecDepth 100000 in
set_option maxHeartbeats 4000000 in
theorem t_X11_wayOf_B16 {Γ : CX} {l : Launch} {E : EV} {rr : Int32} {ss : ST} (C : FX Γ l cX11_wayOf 3 RX11 rm_X11_wayOf E) (hR : RT Γ (some .int) E (some (.int rr)) ss) (v1 : Int32) (v2 : Int32) (σ : ST) (hf : f_X11_wayOf_B16 v1 v2 σ = some (rr, ss)) : GW Γ 3 E σ 16 [(0, .ref (E.2.1 20)), (1, .int v1), (2, .int v2)] [] := by
  rw [f_X11_wayOf_B16] at hf
  refine g_iload_n C 1 dX11_wayOf_16 rfl ?_
  refine g_if_ne (y := 0) (tgt := 24) C dX11_wayOf_17 (by decide) (fun c7 => ?_) (fun c7 => ?_)
  · rw [if_neg c7] at hf
    refine g_iload_n C 1 dX11_wayOf_24 rfl ?_
    refine g_iconst C dX11_wayOf_25 (v := 1) (by decide) ?_
    refine g_icmp_ne (tgt := 38) C dX11_wayOf_26 (by decide) (fun c8 => ?_) (fun c8 => ?_)
    · rw [if_neg c8] at hf
      refine g_iload_n C 1 dX11_wayOf_38 rfl ?_
      refine g_bipush C dX11_wayOf_39 (v := 10) (by decide) ?_
      refine g_isub C dX11_wayOf_41 ?_
      refine g_iload_n C 2 dX11_wayOf_42 rfl ?_
      refine g_icmp_ge (tgt := 58) C dX11_wayOf_43 (by decide) (fun c9 => ?_) (fun c9 => ?_)
      · rw [if_pos c9] at hf
        refine g_iconst C dX11_wayOf_58 (v := (-1)) (by decide) ?_
        exact g_iretW C hR hf dX11_wayOf_59
      · rw [if_neg c9] at hf
        refine g_aload_n C 0 dX11_wayOf_46 rfl ?_
        refine fg_X11_40_20 C dX11_wayOf_47 ?_
        refine g_iload_n C 1 dX11_wayOf_50 rfl ?_
        refine g_bipush C dX11_wayOf_51 (v := 10) (by decide) ?_
        refine g_isub C dX11_wayOf_53 ?_
        obtain ⟨h10, hf⟩ := o_if hf
        refine g_ald C ar_31 dX11_wayOf_54 (k := (v1 - 10).toNatClampNeg) rfl h10 ?_
        refine g_goto (tgt := 59) C dX11_wayOf_55 (by decide) ?_
        exact g_iretW C hR hf dX11_wayOf_59
    · rw [if_pos c8] at hf
      refine g_aload_n C 0 dX11_wayOf_29 rfl ?_
      refine fg_X11_37_20 C dX11_wayOf_30 ?_
      refine g_iload_n C 2 dX11_wayOf_33 rfl ?_
      obtain ⟨h11, hf⟩ := o_if hf
      refine g_ald C ar_30 dX11_wayOf_34 (k := v2.toNatClampNeg) rfl h11 ?_
      refine g_goto (tgt := 59) C dX11_wayOf_35 (by decide) ?_
      exact g_iretW C hR hf dX11_wayOf_59
  · rw [if_pos c7] at hf
    refine g_iload_n C 2 dX11_wayOf_20 rfl ?_
    refine g_goto (tgt := 59) C dX11_wayOf_21 (by decide) ?_
    exact g_iretW C hR hf dX11_wayOf_59
set_option maxRecDepth 100000 in
set_option maxHeartbeats 4000000 in
theorem t_X11_wayOf_L2 {Γ : CX} {l : Launch} {E : EV} {rr : Int32} {ss : ST} (C : FX Γ l cX11_wayOf 3 RX11 rm_X11_wayOf E) (hR : RT Γ (some .int) E (some (.int rr)) ss) : ∀ (n : Nat) (v1 : Int32) (v2 : Int32) (σ : ST), f_X11_wayOf_L2 n v1 v2 σ = some (rr, ss) → GW Γ 3 E σ 2 [(0, .ref (E.2.1 20)), (1, .int v1), (2, .int v2)] [] := by
  intro n
  induction n with
  | zero => intro v1 v2 σ hf; exact nomatch hf
  | succ n ih =>
    intro v1 v2 σ hf
    rw [f_X11_wayOf_L2] at hf
    refine g_iload_n C 2 dX11_wayOf_2 rfl ?_
    refine g_bipush C dX11_wayOf_3 (v := 6) (by decide) ?_
    refine g_icmp_ge (tgt := 66) C dX11_wayOf_5 (by decide) (fun c1 => ?_) (fun c1 => ?_)
    · rw [if_pos c1] at hf
      refine g_iconst C dX11_wayOf_66 (v := (-1)) (by decide) ?_
      exact g_iretW C hR hf dX11_wayOf_67
    · rw [if_neg c1] at hf
      refine g_aload_n C 0 dX11_wayOf_8 rfl ?_
      refine g_iload_n C 2 dX11_wayOf_9 rfl ?_
      obtain ⟨r4, σ3, h2, hf⟩ := o_bind2 hf
      refine g_callV C 20 (c_X11_layWay l E h2) cls_10 k_X11_246 ⟨rfl, rfl, Nat.le_of_ble_eq_true rfl, Nat.le_of_ble_eq_true rfl⟩ (by decide) rfl rfl (Nat.le_of_ble_eq_true rfl) dX11_wayOf_10 _ rfl ?_
      refine g_if_eq (y := 0) (tgt := 60) C dX11_wayOf_13 (by decide) (fun c5 => ?_) (fun c5 => ?_)
      · rw [if_pos c5] at hf
        obtain ⟨x6, hx6, hf⟩ := o_let hf
        refine g_iinc C 2 dX11_wayOf_60 rfl hx6 (by decide) [(2, .int x6), (0, .ref (E.2.1 20)), (1, .int v1)] rfl ?_
        refine g_goto (tgt := 2) C dX11_wayOf_63 (by decide) ?_
        exact g_lv [(0, .ref (E.2.1 20)), (1, .int v1), (2, .int x6)] [1, 2, 0] rfl (ih v1 x6 σ3 hf)
      · rw [if_neg c5] at hf
        exact t_X11_wayOf_B16 C hR v1 v2 σ3 hf
set_option maxRecDepth 100000 in
set_option maxHeartbeats 4000000 in
theorem c_X11_wayOf (l : Launch) (E : EV) {σ ss : ST} {p0 : Int32} {rr : Int32} (hf : f_X11_wayOf p0 σ = some (rr, ss)) : CT l E yX11_wayOf cX11_wayOf 3 (some .int) rm_X11_wayOf [.ref (E.2.1 20), .int p0] σ (some (.int rr)) ss := by
  refine CT.of RX11 rfl (by decide) (Nat.le_of_ble_eq_true rfl) rfl rfl (fun Γ C hR => ?_)
  show GW Γ 3 E σ 0 [(0, .ref (E.2.1 20)), (1, .int p0)] []
  rw [f_X11_wayOf] at hf
  refine g_iconst C dX11_wayOf_0 (v := 0) (by decide) ?_
  refine g_istore_n C dX11_wayOf_1 (by decide) [(2, .int 0), (0, .ref (E.2.1 20)), (1, .int p0)] rfl ?_
  exact g_lv [(0, .ref (E.2.1 20)), (1, .int p0), (2, .int 0)] [1, 2, 0] rfl (t_X11_wayOf_L2 C hR fuel p0 0 σ hf)
abbrev rm_X11_way : Room := { frames := 7, cells := 0, slots := 0, locals := 158 }
set_option maxRecDepth 100000 in
set_option maxHeartbeats 4000000 in
theorem t_X11_way_B27 {Γ : CX} {l : Launch} {E : EV} {rr : Int32} {ss : ST} (C : FX Γ l cX11_way 2 RX11 rm_X11_way E) (hR : RT Γ (some .int) E (some (.int rr)) ss) (v1 : Int32) (σ : ST) (hf : f_X11_way_B27 v1 σ = some (rr, ss)) : GW Γ 2 E σ 27 [(0, .ref (E.2.1 20)), (1, .int v1)] [] := by
  rw [f_X11_way_B27] at hf
  refine g_aload_n C 0 dX11_way_27 rfl ?_
  obtain ⟨r5, h4, hf⟩ := o_bind hf
  refine g_callV C 20 (c_X11_lacks l E h4) cls_10 k_X11_234 ⟨rfl, rfl, Nat.le_of_ble_eq_true rfl, Nat.le_of_ble_eq_true rfl⟩ (by decide) rfl rfl (Nat.le_of_ble_eq_true rfl) dX11_way_28 _ rfl ?_
  refine g_if_ne (y := 0) (tgt := 50) C dX11_way_31 (by decide) (fun c6 => ?_) (fun c6 => ?_)
  · rw [if_neg c6] at hf
    refine g_bipush C dX11_way_50 (v := (-103)) (by decide) ?_
    exact g_iretW C hR hf dX11_way_52
  · rw [if_pos c6] at hf
    refine g_aload_n C 0 dX11_way_34 rfl ?_
    obtain ⟨r8, h7, hf⟩ := o_bind hf
    refine g_callV C 20 (c_X11_areBoth l E h7) cls_10 k_X11_251 ⟨rfl, rfl, Nat.le_of_ble_eq_true rfl, Nat.le_of_ble_eq_true rfl⟩ (by decide) rfl rfl (Nat.le_of_ble_eq_true rfl) dX11_way_35 _ rfl ?_
    refine g_if_eq (y := 0) (tgt := 50) C dX11_way_38 (by decide) (fun c9 => ?_) (fun c9 => ?_)
    · rw [if_pos c9] at hf
      refine g_bipush C dX11_way_50 (v := (-103)) (by decide) ?_
      exact g_iretW C hR hf dX11_way_52
    · rw [if_neg c9] at hf
      refine g_aload_n C 0 dX11_way_41 rfl ?_
      refine fg_X11_254_20 C dX11_way_42 ?_
      refine g_bipush C dX11_way_45 (v := 16) (by decide) ?_
      refine g_icmp_ne (tgt := 53) C dX11_way_47 (by decide) (fun c10 => ?_) (fun c10 => ?_)
      · rw [if_neg c10] at hf
        refine g_aload_n C 0 dX11_way_53 rfl ?_
        refine g_dup C dX11_way_54 rfl ?_
        refine fg_X11_254_20 C dX11_way_55 ?_
        refine g_iconst C dX11_way_58 (v := 1) (by decide) ?_
        refine g_iadd C dX11_way_59 ?_
        obtain ⟨σ11, hσ11, hf⟩ := o_let hf
        refine fp_X11_254_20 C dX11_way_60 hσ11 ?_
        refine g_aload_n C 0 dX11_way_63 rfl ?_
        refine g_iload_n C 1 dX11_way_64 rfl ?_
        obtain ⟨r14, σ13, h12, hf⟩ := o_bind2 hf
        refine g_callV C 20 (c_X11_wayOf l E h12) cls_10 k_X11_257 ⟨rfl, rfl, Nat.le_of_ble_eq_true rfl, Nat.le_of_ble_eq_true rfl⟩ (by decide) rfl rfl (Nat.le_of_ble_eq_true rfl) dX11_way_65 _ rfl ?_
        exact g_iretW C hR hf dX11_way_68
      · rw [if_pos c10] at hf
        refine g_bipush C dX11_way_50 (v := (-103)) (by decide) ?_
        exact g_iretW C hR hf dX11_way_52
set_option maxRecDepth 100000 in
set_option maxHeartbeats 4000000 in
theorem c_X11_way (l : Launch) (E : EV) {σ ss : ST} {p0 : Int32} {rr : Int32} (hf : f_X11_way p0 σ = some (rr, ss)) : CT l E yX11_way cX11_way 2 (some .int) rm_X11_way [.ref (E.2.1 20), .int p0] σ (some (.int rr)) ss := by
  refine CT.of RX11 rfl (by decide) (Nat.le_of_ble_eq_true rfl) rfl rfl (fun Γ C hR => ?_)
  show GW Γ 2 E σ 0 [(0, .ref (E.2.1 20)), (1, .int p0)] []
  rw [f_X11_way] at hf
  refine g_iload_n C 1 dX11_way_0 rfl ?_
  refine g_i2l C dX11_way_1 ?_
  refine g_lconst C dX11_way_2 (v := 0) (by decide) ?_
  refine g_lconst C dX11_way_3 (v := 1) (by decide) ?_
  obtain ⟨r2, h1, hf⟩ := o_bind hf
  refine g_callS C (c_X11_in l E h1) k_X11_73 ⟨rfl, rfl, Nat.le_of_ble_eq_true rfl, Nat.le_of_ble_eq_true rfl⟩ rfl (Nat.le_of_ble_eq_true rfl) dX11_way_4 _ rfl ?_
  refine g_if_ne (y := 0) (tgt := 27) C dX11_way_7 (by decide) (fun c3 => ?_) (fun c3 => ?_)
  · rw [if_neg c3] at hf
    exact t_X11_way_B27 C hR p0 σ hf
  · rw [if_pos c3] at hf
    refine g_iload_n C 1 dX11_way_10 rfl ?_
    refine g_i2l C dX11_way_11 ?_
    refine g_ldc2 C dX11_way_12 (v := 10) kl_X11_158 ?_
    refine g_ldc2 C dX11_way_15 (v := 14) kl_X11_249 ?_
    obtain ⟨r16, h15, hf⟩ := o_bind hf
    refine g_callS C (c_X11_in l E h15) k_X11_73 ⟨rfl, rfl, Nat.le_of_ble_eq_true rfl, Nat.le_of_ble_eq_true rfl⟩ rfl (Nat.le_of_ble_eq_true rfl) dX11_way_18 _ rfl ?_
    refine g_if_ne (y := 0) (tgt := 27) C dX11_way_21 (by decide) (fun c17 => ?_) (fun c17 => ?_)
    · rw [if_neg c17] at hf
      exact t_X11_way_B27 C hR p0 σ hf
    · rw [if_pos c17] at hf
      refine g_bipush C dX11_way_24 (v := (-102)) (by decide) ?_
      exact g_iretW C hR hf dX11_way_26
abbrev rm_X11_meet : Room := { frames := 0, cells := 0, slots := 0, locals := 0 }
set_option maxRecDepth 100000 in
set_option maxHeartbeats 4000000 in
theorem t_X11_meet_B61 {Γ : CX} {l : Launch} {E : EV} {ss : ST} (C : FX Γ l cX11_meet 4 RX11 rm_X11_meet E) (hR : RT Γ none E none ss) (v2 : Int32) (v3 : Int32) (σ : ST) (hf : f_X11_meet_B61 v2 v3 σ = some ss) : GW Γ 4 E σ 61 [(0, .ref (E.2.1 20)), (2, .int v2), (3, .int v3)] [] := by
  rw [f_X11_meet_B61] at hf
  refine g_aload_n C 0 dX11_meet_61 rfl ?_
  refine fg_X11_43_20 C dX11_meet_62 ?_
  refine g_iload_n C 2 dX11_meet_65 rfl ?_
  refine g_iload_n C 1 dX11_meet_66 rfl ?_
  obtain ⟨h4, hf⟩ := o_if hf
  obtain ⟨σ3, hσ3, hf⟩ := o_let hf
  refine g_ast C ar_32 dX11_meet_67 (k := v3.toNatClampNeg) rfl h4 hσ3 ?_
  refine g_aload_n C 0 dX11_meet_68 rfl ?_
  refine g_iload_n C 2 dX11_meet_69 rfl ?_
  refine g_aload_n C 0 dX11_meet_70 rfl ?_
  refine fg_X11_260_20 C dX11_meet_71 ?_
  obtain ⟨x5, ex5, hf⟩ := o_let hf
  have Kx5 : GW Γ 4 E σ3 87 [] [.int x5, .ref (E.2.1 20)] := by
    obtain ⟨σ7, hσ7, hf⟩ := o_let hf
    refine fp_X11_260_20 C dX11_meet_87 hσ7 ?_
    exact g_vretW C hR hf dX11_meet_90
  refine g_icmp_ne (tgt := 83) C dX11_meet_74 (by decide) (fun c6 => ?_) (fun c6 => ?_)
  · rw [if_neg c6] at ex5
    refine g_aload_n C 0 dX11_meet_83 rfl ?_
    refine fg_X11_260_20 C dX11_meet_84 ?_
    rw [← ex5] at Kx5
    exact g_lv [] [] rfl Kx5
  · rw [if_pos c6] at ex5
    refine g_iload_n C 2 dX11_meet_77 rfl ?_
    refine g_iconst C dX11_meet_78 (v := 1) (by decide) ?_
    refine g_iadd C dX11_meet_79 ?_
    refine g_goto (tgt := 87) C dX11_meet_80 (by decide) ?_
    rw [← ex5] at Kx5
    exact g_lv [] [] rfl Kx5
set_option maxRecDepth 100000 in
set_option maxHeartbeats 4000000 in
theorem t_X11_meet_L37 {Γ : CX} {l : Launch} {E : EV} {ss : ST} (C : FX Γ l cX11_meet 4 RX11 rm_X11_meet E) (hR : RT Γ none E none ss) : ∀ (n : Nat) (v2 : Int32) (v3 : Int32) (σ : ST), f_X11_meet_L37 n v2 v3 σ = some ss → GW Γ 4 E σ 37 [(0, .ref (E.2.1 20)), (2, .int v2), (3, .int v3)] [] := by
  intro n
  induction n with
  | zero => intro v2 v3 σ hf; exact nomatch hf
  | succ n ih =>
    intro v2 v3 σ hf
    rw [f_X11_meet_L37] at hf
    refine g_iload_n C 2 dX11_meet_37 rfl ?_
    refine g_aload_n C 0 dX11_meet_38 rfl ?_
    refine fg_X11_260_20 C dX11_meet_39 ?_
    refine g_icmp_ge (tgt := 61) C dX11_meet_42 (by decide) (fun c2 => ?_) (fun c2 => ?_)
    · rw [if_pos c2] at hf
      exact t_X11_meet_B61 C hR v2 v3 σ hf
    · rw [if_neg c2] at hf
      refine g_aload_n C 0 dX11_meet_45 rfl ?_
      refine fg_X11_43_20 C dX11_meet_46 ?_
      refine g_iload_n C 2 dX11_meet_49 rfl ?_
      obtain ⟨h8, hf⟩ := o_if hf
      refine g_ald C ar_32 dX11_meet_50 (k := v3.toNatClampNeg) rfl h8 ?_
      refine g_iload_n C 1 dX11_meet_51 rfl ?_
      refine g_icmp_eq (tgt := 61) C dX11_meet_52 (by decide) (fun c9 => ?_) (fun c9 => ?_)
      · rw [if_pos c9] at hf
        exact t_X11_meet_B61 C hR v2 v3 σ hf
      · rw [if_neg c9] at hf
        obtain ⟨x10, hx10, hf⟩ := o_let hf
        refine g_iinc C 2 dX11_meet_55 rfl hx10 (by decide) [(3, .int x10), (0, .ref (E.2.1 20)), (2, .int v2)] rfl ?_
        refine g_goto (tgt := 37) C dX11_meet_58 (by decide) ?_
        exact g_lv [(0, .ref (E.2.1 20)), (2, .int v2), (3, .int x10)] [1, 2, 0] rfl (ih v2 x10 σ hf)
set_option maxRecDepth 100000 in
set_option maxHeartbeats 4000000 in
theorem t_X11_meet_B35 {Γ : CX} {l : Launch} {E : EV} {ss : ST} (C : FX Γ l cX11_meet 4 RX11 rm_X11_meet E) (hR : RT Γ none E none ss) (v2 : Int32) (σ : ST) (hf : f_X11_meet_B35 v2 σ = some ss) : GW Γ 4 E σ 35 [(0, .ref (E.2.1 20)), (2, .int v2)] [] := by
  rw [f_X11_meet_B35] at hf
  refine g_iconst C dX11_meet_35 (v := 0) (by decide) ?_
  refine g_istore_n C dX11_meet_36 (by decide) [(3, .int 0), (0, .ref (E.2.1 20)), (2, .int v2)] rfl ?_
  exact g_lv [(0, .ref (E.2.1 20)), (2, .int v2), (3, .int 0)] [1, 2, 0] rfl (t_X11_meet_L37 C hR fuel v2 0 σ hf)
set_option maxRecDepth 100000 in
set_option maxHeartbeats 4000000 in
theorem t_X11_meet_L4 {Γ : CX} {l : Launch} {E : EV} {ss : ST} (C : FX Γ l cX11_meet 4 RX11 rm_X11_meet E) (hR : RT Γ none E none ss) : ∀ (n : Nat) (v1 : Int32) (v2 : Int32) (v3 : Int32) (σ : ST), f_X11_meet_L4 n v1 v2 v3 σ = some ss → GW Γ 4 E σ 4 [(0, .ref (E.2.1 20)), (1, .int v1), (2, .int v2), (3, .int v3)] [] := by
  intro n
  induction n with
  | zero => intro v1 v2 v3 σ hf; exact nomatch hf
  | succ n ih =>
    intro v1 v2 v3 σ hf
    rw [f_X11_meet_L4] at hf
    refine g_iload_n C 3 dX11_meet_4 rfl ?_
    refine g_aload_n C 0 dX11_meet_5 rfl ?_
    refine fg_X11_135_20 C dX11_meet_6 ?_
    refine g_icmp_ge (tgt := 35) C dX11_meet_9 (by decide) (fun c1 => ?_) (fun c1 => ?_)
    · rw [if_pos c1] at hf
      exact g_lv [(0, .ref (E.2.1 20)), (2, .int v2)] [0, 2] rfl (t_X11_meet_B35 C hR v2 σ hf)
    · rw [if_neg c1] at hf
      refine g_bipush C dX11_meet_12 (v := 12) (by decide) ?_
      refine g_iload_n C 2 dX11_meet_14 rfl ?_
      refine g_imul C dX11_meet_15 ?_
      refine g_aload_n C 0 dX11_meet_16 rfl ?_
      refine fg_X11_34_20 C dX11_meet_17 ?_
      refine g_bipush C dX11_meet_20 (v := 8) (by decide) ?_
      refine g_iload_n C 1 dX11_meet_22 rfl ?_
      refine g_imul C dX11_meet_23 ?_
      refine g_iload_n C 3 dX11_meet_24 rfl ?_
      refine g_iadd C dX11_meet_25 ?_
      obtain ⟨h11, hf⟩ := o_if hf
      refine g_ald C ar_29 dX11_meet_26 (k := ((8 * v1) + v3).toNatClampNeg) rfl h11 ?_
      refine g_iadd C dX11_meet_27 ?_
      obtain ⟨x12, hx12, hf⟩ := o_let hf
      refine g_topi hx12 ?_
      refine g_istore_n C dX11_meet_28 (by decide) [(2, .int x12), (0, .ref (E.2.1 20)), (1, .int v1), (3, .int v3)] rfl ?_
      obtain ⟨x13, hx13, hf⟩ := o_let hf
      refine g_iinc C 3 dX11_meet_29 rfl hx13 (by decide) [(3, .int x13), (2, .int x12), (0, .ref (E.2.1 20)), (1, .int v1)] rfl ?_
      refine g_goto (tgt := 4) C dX11_meet_32 (by decide) ?_
      exact g_lv [(0, .ref (E.2.1 20)), (1, .int v1), (2, .int x12), (3, .int x13)] [2, 3, 1, 0] rfl (ih v1 x12 x13 σ hf)
set_option maxRecDepth 100000 in
set_option maxHeartbeats 4000000 in
theorem c_X11_meet (l : Launch) (E : EV) {σ ss : ST} {p0 : Int32} (hf : f_X11_meet p0 σ = some ss) : CT l E yX11_meet cX11_meet 4 none rm_X11_meet [.ref (E.2.1 20), .int p0] σ none ss := by
  refine CT.of RX11 rfl (by decide) (Nat.le_of_ble_eq_true rfl) rfl rfl (fun Γ C hR => ?_)
  show GW Γ 4 E σ 0 [(0, .ref (E.2.1 20)), (1, .int p0)] []
  rw [f_X11_meet] at hf
  refine g_iconst C dX11_meet_0 (v := 0) (by decide) ?_
  refine g_istore_n C dX11_meet_1 (by decide) [(2, .int 0), (0, .ref (E.2.1 20)), (1, .int p0)] rfl ?_
  refine g_iconst C dX11_meet_2 (v := 0) (by decide) ?_
  refine g_istore_n C dX11_meet_3 (by decide) [(3, .int 0), (2, .int 0), (0, .ref (E.2.1 20)), (1, .int p0)] rfl ?_
  exact g_lv [(0, .ref (E.2.1 20)), (1, .int p0), (2, .int 0), (3, .int 0)] [2, 3, 1, 0] rfl (t_X11_meet_L4 C hR fuel p0 0 0 σ hf)
abbrev rm_X11_becomeOf : Room := { frames := 5, cells := 0, slots := 0, locals := 114 }
set_option maxRecDepth 100000 in
set_option maxHeartbeats 4000000 in
theorem t_X11_becomeOf_L18 {Γ : CX} {l : Launch} {E : EV} {rr : Int32} {ss : ST} (C : FX Γ l cX11_becomeOf 3 RX11 rm_X11_becomeOf E) (hR : RT Γ (some .int) E (some (.int rr)) ss) : ∀ (n : Nat) (v1 : Int32) (v2 : Int32) (σ : ST), f_X11_becomeOf_L18 n v1 v2 σ = some (rr, ss) → GW Γ 3 E σ 18 [(0, .ref (E.2.1 20)), (1, .int v1), (2, .int v2)] [] := by
  intro n
  induction n with
  | zero => intro v1 v2 σ hf; exact nomatch hf
  | succ n ih =>
    intro v1 v2 σ hf
    rw [f_X11_becomeOf_L18] at hf
    refine g_iload_n C 2 dX11_becomeOf_18 rfl ?_
    refine g_if_lt (y := 0) (tgt := 94) C dX11_becomeOf_19 (by decide) (fun c5 => ?_) (fun c5 => ?_)
    · rw [if_pos c5] at hf
      refine g_aload_n C 0 dX11_becomeOf_94 rfl ?_
      refine fg_X11_260_20 C dX11_becomeOf_95 ?_
      exact g_iretW C hR hf dX11_becomeOf_98
    · rw [if_neg c5] at hf
      refine g_iload_n C 2 dX11_becomeOf_22 rfl ?_
      refine g_iload_n C 1 dX11_becomeOf_23 rfl ?_
      refine g_icmp_ne (tgt := 38) C dX11_becomeOf_24 (by decide) (fun c6 => ?_) (fun c6 => ?_)
      · rw [if_neg c6] at hf
        refine g_aload_n C 0 dX11_becomeOf_38 rfl ?_
        refine fg_X11_40_20 C dX11_becomeOf_39 ?_
        refine g_iload_n C 2 dX11_becomeOf_42 rfl ?_
        refine g_dup2 C dX11_becomeOf_43 rfl rfl ?_
        obtain ⟨h7, hf⟩ := o_if hf
        refine g_ald C ar_31 dX11_becomeOf_44 (k := v2.toNatClampNeg) rfl h7 ?_
        refine g_iconst C dX11_becomeOf_45 (v := 1) (by decide) ?_
        refine g_iadd C dX11_becomeOf_46 ?_
        obtain ⟨h9, hf⟩ := o_if hf
        obtain ⟨σ8, hσ8, hf⟩ := o_let hf
        refine g_ast C ar_31 dX11_becomeOf_47 (k := v2.toNatClampNeg) rfl h9 hσ8 ?_
        refine g_aload_n C 0 dX11_becomeOf_48 rfl ?_
        refine fg_X11_40_20 C dX11_becomeOf_49 ?_
        refine g_iload_n C 2 dX11_becomeOf_52 rfl ?_
        obtain ⟨h10, hf⟩ := o_if hf
        refine g_ald C ar_31 dX11_becomeOf_53 (k := v2.toNatClampNeg) rfl h10 ?_
        refine g_aload_n C 0 dX11_becomeOf_54 rfl ?_
        refine fg_X11_108_20 C dX11_becomeOf_55 ?_
        refine g_icmp_ne (tgt := 67) C dX11_becomeOf_58 (by decide) (fun c11 => ?_) (fun c11 => ?_)
        · rw [if_neg c11] at hf
          refine g_aload_n C 0 dX11_becomeOf_67 rfl ?_
          refine g_iload_n C 2 dX11_becomeOf_68 rfl ?_
          refine g_aload_n C 0 dX11_becomeOf_69 rfl ?_
          refine fg_X11_40_20 C dX11_becomeOf_70 ?_
          refine g_iload_n C 2 dX11_becomeOf_73 rfl ?_
          obtain ⟨h12, hf⟩ := o_if hf
          refine g_ald C ar_31 dX11_becomeOf_74 (k := v2.toNatClampNeg) rfl h12 ?_
          obtain ⟨r15, σ14, h13, hf⟩ := o_bind2 hf
          refine g_callV C 20 (c_X11_goOn l E h13) cls_10 k_X11_243 ⟨rfl, rfl, Nat.le_of_ble_eq_true rfl, Nat.le_of_ble_eq_true rfl⟩ (by decide) rfl rfl (Nat.le_of_ble_eq_true rfl) dX11_becomeOf_75 _ rfl ?_
          refine g_if_eq (y := 0) (tgt := 18) C dX11_becomeOf_78 (by decide) (fun c16 => ?_) (fun c16 => ?_)
          · rw [if_pos c16] at hf
            exact ih v1 v2 σ14 hf
          · rw [if_neg c16] at hf
            obtain ⟨x17, hx17, hf⟩ := o_let hf
            refine g_iinc C 2 dX11_becomeOf_81 rfl hx17 (by decide) [(2, .int x17), (0, .ref (E.2.1 20)), (1, .int v1)] rfl ?_
            refine g_aload_n C 1 dX11_becomeOf_84 rfl ?_
            refine fg_X11_40_20 C dX11_becomeOf_85 ?_
            refine g_iload_n C 0 dX11_becomeOf_88 rfl ?_
            refine g_iconst C dX11_becomeOf_89 (v := (-1)) (by decide) ?_
            obtain ⟨h19, hf⟩ := o_if hf
            obtain ⟨σ18, hσ18, hf⟩ := o_let hf
            refine g_ast C ar_31 dX11_becomeOf_90 (k := x17.toNatClampNeg) rfl h19 hσ18 ?_
            refine g_goto (tgt := 18) C dX11_becomeOf_91 (by decide) ?_
            exact g_lv [(0, .ref (E.2.1 20)), (1, .int v1), (2, .int x17)] [1, 2, 0] rfl (ih v1 x17 σ18 hf)
        · rw [if_pos c11] at hf
          obtain ⟨x20, hx20, hf⟩ := o_let hf
          refine g_iinc C 2 dX11_becomeOf_61 rfl hx20 (by decide) [(2, .int x20), (0, .ref (E.2.1 20)), (1, .int v1)] rfl ?_
          refine g_goto (tgt := 18) C dX11_becomeOf_64 (by decide) ?_
          exact g_lv [(0, .ref (E.2.1 20)), (1, .int v1), (2, .int x20)] [1, 2, 0] rfl (ih v1 x20 σ8 hf)
      · rw [if_pos c6] at hf
        refine g_aload_n C 0 dX11_becomeOf_27 rfl ?_
        refine g_iload_n C 2 dX11_becomeOf_28 rfl ?_
        obtain ⟨σ22, h21, hf⟩ := o_bind hf
        refine g_callV C 20 (c_X11_meet l E h21) cls_10 k_X11_263 ⟨rfl, rfl, Nat.le_of_ble_eq_true rfl, Nat.le_of_ble_eq_true rfl⟩ (by decide) rfl rfl (Nat.le_of_ble_eq_true rfl) dX11_becomeOf_29 _ rfl ?_
        obtain ⟨x23, hx23, hf⟩ := o_let hf
        refine g_iinc C 2 dX11_becomeOf_32 rfl hx23 (by decide) [(2, .int x23), (0, .ref (E.2.1 20)), (1, .int v1)] rfl ?_
        refine g_goto (tgt := 18) C dX11_becomeOf_35 (by decide) ?_
        exact g_lv [(0, .ref (E.2.1 20)), (1, .int v1), (2, .int x23)] [1, 2, 0] rfl (ih v1 x23 σ22 hf)
set_option maxRecDepth 100000 in
set_option maxHeartbeats 4000000 in
theorem c_X11_becomeOf (l : Launch) (E : EV) {σ ss : ST} {p0 : Int32} {rr : Int32} (hf : f_X11_becomeOf p0 σ = some (rr, ss)) : CT l E yX11_becomeOf cX11_becomeOf 3 (some .int) rm_X11_becomeOf [.ref (E.2.1 20), .int p0] σ (some (.int rr)) ss := by
  refine CT.of RX11 rfl (by decide) (Nat.le_of_ble_eq_true rfl) rfl rfl (fun Γ C hR => ?_)
  show GW Γ 3 E σ 0 [(0, .ref (E.2.1 20)), (1, .int p0)] []
  rw [f_X11_becomeOf] at hf
  refine g_aload_n C 0 dX11_becomeOf_0 rfl ?_
  obtain ⟨σ2, h1, hf⟩ := o_bind hf
  refine g_callV C 20 (c_X11_beginWalk l E h1) cls_10 k_X11_237 ⟨rfl, rfl, Nat.le_of_ble_eq_true rfl, Nat.le_of_ble_eq_true rfl⟩ (by decide) rfl rfl (Nat.le_of_ble_eq_true rfl) dX11_becomeOf_1 _ rfl ?_
  refine g_aload_n C 0 dX11_becomeOf_4 rfl ?_
  refine g_iconst C dX11_becomeOf_5 (v := 0) (by decide) ?_
  obtain ⟨σ3, hσ3, hf⟩ := o_let hf
  refine fp_X11_260_20 C dX11_becomeOf_6 hσ3 ?_
  refine g_iconst C dX11_becomeOf_9 (v := 0) (by decide) ?_
  refine g_istore_n C dX11_becomeOf_10 (by decide) [(2, .int 0), (0, .ref (E.2.1 20)), (1, .int p0)] rfl ?_
  refine g_aload_n C 1 dX11_becomeOf_11 rfl ?_
  refine fg_X11_40_20 C dX11_becomeOf_12 ?_
  refine g_iconst C dX11_becomeOf_15 (v := 0) (by decide) ?_
  refine g_iconst C dX11_becomeOf_16 (v := (-1)) (by decide) ?_
  obtain ⟨σ4, hσ4, hf⟩ := o_let hf
  refine g_ast C ar_31 dX11_becomeOf_17 (k := 0) (by decide) (by decide) hσ4 ?_
  exact g_lv [(0, .ref (E.2.1 20)), (1, .int p0), (2, .int 0)] [1, 2, 0] rfl (t_X11_becomeOf_L18 C hR fuel p0 0 σ4 hf)
abbrev rm_X11_become : Room := { frames := 6, cells := 0, slots := 0, locals := 136 }
set_option maxRecDepth 100000 in
set_option maxHeartbeats 4000000 in
theorem c_X11_become (l : Launch) (E : EV) {σ ss : ST} {p0 : Int32} {rr : Int32} (hf : f_X11_become p0 σ = some (rr, ss)) : CT l E yX11_become cX11_become 2 (some .int) rm_X11_become [.ref (E.2.1 20), .int p0] σ (some (.int rr)) ss := by
  refine CT.of RX11 rfl (by decide) (Nat.le_of_ble_eq_true rfl) rfl rfl (fun Γ C hR => ?_)
  show GW Γ 2 E σ 0 [(0, .ref (E.2.1 20)), (1, .int p0)] []
  rw [f_X11_become] at hf
  refine g_iload_n C 1 dX11_become_0 rfl ?_
  refine g_i2l C dX11_become_1 ?_
  refine g_lconst C dX11_become_2 (v := 0) (by decide) ?_
  refine g_ldc2 C dX11_become_3 (v := 3) kl_X11_267 ?_
  obtain ⟨r2, h1, hf⟩ := o_bind hf
  refine g_callS C (c_X11_in l E h1) k_X11_73 ⟨rfl, rfl, Nat.le_of_ble_eq_true rfl, Nat.le_of_ble_eq_true rfl⟩ rfl (Nat.le_of_ble_eq_true rfl) dX11_become_6 _ rfl ?_
  refine g_if_ne (y := 0) (tgt := 15) C dX11_become_9 (by decide) (fun c3 => ?_) (fun c3 => ?_)
  · rw [if_neg c3] at hf
    refine g_aload_n C 0 dX11_become_15 rfl ?_
    obtain ⟨r5, h4, hf⟩ := o_bind hf
    refine g_callV C 20 (c_X11_lacks l E h4) cls_10 k_X11_234 ⟨rfl, rfl, Nat.le_of_ble_eq_true rfl, Nat.le_of_ble_eq_true rfl⟩ (by decide) rfl rfl (Nat.le_of_ble_eq_true rfl) dX11_become_16 _ rfl ?_
    refine g_if_ne (y := 0) (tgt := 29) C dX11_become_19 (by decide) (fun c6 => ?_) (fun c6 => ?_)
    · rw [if_neg c6] at hf
      refine g_bipush C dX11_become_29 (v := (-103)) (by decide) ?_
      refine g_goto (tgt := 39) C dX11_become_31 (by decide) ?_
      exact g_iretW C hR hf dX11_become_39
    · rw [if_pos c6] at hf
      refine g_aload_n C 0 dX11_become_22 rfl ?_
      refine fg_X11_135_20 C dX11_become_23 ?_
      refine g_if_ne (y := 0) (tgt := 34) C dX11_become_26 (by decide) (fun c7 => ?_) (fun c7 => ?_)
      · rw [if_neg c7] at hf
        refine g_aload_n C 0 dX11_become_34 rfl ?_
        refine g_iload_n C 1 dX11_become_35 rfl ?_
        obtain ⟨r10, σ9, h8, hf⟩ := o_bind2 hf
        refine g_callV C 20 (c_X11_becomeOf l E h8) cls_10 k_X11_269 ⟨rfl, rfl, Nat.le_of_ble_eq_true rfl, Nat.le_of_ble_eq_true rfl⟩ (by decide) rfl rfl (Nat.le_of_ble_eq_true rfl) dX11_become_36 _ rfl ?_
        exact g_iretW C hR hf dX11_become_39
      · rw [if_pos c7] at hf
        refine g_bipush C dX11_become_29 (v := (-103)) (by decide) ?_
        refine g_goto (tgt := 39) C dX11_become_31 (by decide) ?_
        exact g_iretW C hR hf dX11_become_39
  · rw [if_pos c3] at hf
    refine g_bipush C dX11_become_12 (v := (-102)) (by decide) ?_
    exact g_iretW C hR hf dX11_become_14
abbrev rm_X11_apartOf : Room := { frames := 0, cells := 0, slots := 0, locals := 0 }
set_option maxRecDepth 100000 in
set_option maxHeartbeats 4000000 in
theorem t_X11_apartOf_L25 {Γ : CX} {l : Launch} {E : EV} {o0 : Nat} {n0 : Nat} {o2 : Nat} {n2 : Nat} {σ : ST} {rr : Int32} (C : FX Γ l cX11_apartOf 7 RX11 rm_X11_apartOf E) (hR : RT Γ (some .int) E (some (.int rr)) σ) (hA0 : ARY o0 n0) (hA2 : ARY o2 n2) : ∀ (n : Nat) (v4 : Int32) (v5 : Int32) (v6 : Int32), f_X11_apartOf_L25 o0 n0 o2 n2 σ n v4 v5 v6 = some rr → GW Γ 7 E σ 25 [(0, .ref (E.2.1 o0)), (2, .ref (E.2.1 o2)), (4, .int v4), (5, .int v5), (6, .int v6)] [] := by
  intro n
  induction n with
  | zero => intro v4 v5 v6 hf; exact nomatch hf
  | succ n ih =>
    intro v4 v5 v6 hf
    rw [f_X11_apartOf_L25] at hf
    refine g_iload C 4 dX11_apartOf_25 rfl ?_
    refine g_iload C 2 dX11_apartOf_27 rfl ?_
    refine g_icmp_ge (tgt := 59) C dX11_apartOf_29 (by decide) (fun c4 => ?_) (fun c4 => ?_)
    · rw [if_pos c4] at hf
      refine g_iload C 3 dX11_apartOf_59 rfl ?_
      exact g_iretR C hR hf dX11_apartOf_61
    · rw [if_neg c4] at hf
      refine g_iload C 3 dX11_apartOf_32 rfl ?_
      refine g_aload_n C 0 dX11_apartOf_34 rfl ?_
      refine g_iload C 4 dX11_apartOf_35 rfl ?_
      obtain ⟨h5, hf⟩ := o_if hf
      refine g_ald C hA0 dX11_apartOf_37 (k := v6.toNatClampNeg) rfl h5 ?_
      refine g_aload_n C 1 dX11_apartOf_38 rfl ?_
      refine g_iload C 4 dX11_apartOf_39 rfl ?_
      obtain ⟨h6, hf⟩ := o_if hf
      refine g_ald C hA2 dX11_apartOf_41 (k := v6.toNatClampNeg) rfl h6 ?_
      obtain ⟨x7, ex7, hf⟩ := o_let hf
      have Kx7 : GW Γ 7 E σ 50 [(0, .ref (E.2.1 o0)), (2, .ref (E.2.1 o2)), (4, .int v4), (6, .int v6)] [.int x7, .int v5] := by
        refine g_iadd C dX11_apartOf_50 ?_
        obtain ⟨x9, hx9, hf⟩ := o_let hf
        refine g_topi hx9 ?_
        refine g_istore C dX11_apartOf_51 (by decide) [(5, .int x9), (0, .ref (E.2.1 o0)), (2, .ref (E.2.1 o2)), (4, .int v4), (6, .int v6)] rfl ?_
        obtain ⟨x10, hx10, hf⟩ := o_let hf
        refine g_iinc C 4 dX11_apartOf_53 rfl hx10 (by decide) [(6, .int x10), (5, .int x9), (0, .ref (E.2.1 o0)), (2, .ref (E.2.1 o2)), (4, .int v4)] rfl ?_
        refine g_goto (tgt := 25) C dX11_apartOf_56 (by decide) ?_
        exact g_lv [(0, .ref (E.2.1 o0)), (2, .ref (E.2.1 o2)), (4, .int v4), (5, .int x9), (6, .int x10)] [2, 3, 4, 1, 0] rfl (ih v4 x9 x10 hf)
      refine g_icmp_ne (tgt := 49) C dX11_apartOf_42 (by decide) (fun c8 => ?_) (fun c8 => ?_)
      · rw [if_neg c8] at ex7
        refine g_iconst C dX11_apartOf_49 (v := 1) (by decide) ?_
        rw [← ex7] at Kx7
        exact g_lv [(0, .ref (E.2.1 o0)), (2, .ref (E.2.1 o2)), (4, .int v4), (6, .int v6)] [0, 1, 2, 4] rfl Kx7
      · rw [if_pos c8] at ex7
        refine g_iconst C dX11_apartOf_45 (v := 0) (by decide) ?_
        refine g_goto (tgt := 50) C dX11_apartOf_46 (by decide) ?_
        rw [← ex7] at Kx7
        exact g_lv [(0, .ref (E.2.1 o0)), (2, .ref (E.2.1 o2)), (4, .int v4), (6, .int v6)] [0, 1, 2, 4] rfl Kx7
set_option maxRecDepth 100000 in
set_option maxHeartbeats 4000000 in
theorem t_X11_apartOf_B10 {Γ : CX} {l : Launch} {E : EV} {o0 : Nat} {n0 : Nat} {o2 : Nat} {n2 : Nat} {σ : ST} {rr : Int32} (C : FX Γ l cX11_apartOf 7 RX11 rm_X11_apartOf E) (hR : RT Γ (some .int) E (some (.int rr)) σ) (hA0 : ARY o0 n0) (hA2 : ARY o2 n2) (v1 : Int32) (v3 : Int32) (s0 : Int32) (hf : f_X11_apartOf_B10 o0 n0 o2 n2 σ v1 v3 s0 = some rr) : GW Γ 7 E σ 10 [(0, .ref (E.2.1 o0)), (1, .int v1), (2, .ref (E.2.1 o2)), (3, .int v3)] [.int s0] := by
  rw [f_X11_apartOf_B10] at hf
  refine g_istore C dX11_apartOf_10 (by decide) [(4, .int s0), (0, .ref (E.2.1 o0)), (1, .int v1), (2, .ref (E.2.1 o2)), (3, .int v3)] rfl ?_
  refine g_iload_n C 2 dX11_apartOf_12 rfl ?_
  refine g_iload_n C 4 dX11_apartOf_13 rfl ?_
  refine g_iadd C dX11_apartOf_14 ?_
  refine g_iconst C dX11_apartOf_15 (v := 2) (by decide) ?_
  refine g_iload C 0 dX11_apartOf_16 rfl ?_
  refine g_imul C dX11_apartOf_18 ?_
  refine g_isub C dX11_apartOf_19 ?_
  obtain ⟨x3, hx3, hf⟩ := o_let hf
  refine g_topi hx3 ?_
  refine g_istore C dX11_apartOf_20 (by decide) [(5, .int x3), (4, .int s0), (0, .ref (E.2.1 o0)), (1, .int v1), (2, .ref (E.2.1 o2)), (3, .int v3)] rfl ?_
  refine g_iconst C dX11_apartOf_22 (v := 0) (by decide) ?_
  refine g_istore C dX11_apartOf_23 (by decide) [(6, .int 0), (5, .int x3), (4, .int s0), (0, .ref (E.2.1 o0)), (1, .int v1), (2, .ref (E.2.1 o2)), (3, .int v3)] rfl ?_
  exact g_lv [(0, .ref (E.2.1 o0)), (2, .ref (E.2.1 o2)), (4, .int s0), (5, .int x3), (6, .int 0)] [3, 5, 2, 1, 0] rfl (t_X11_apartOf_L25 C hR hA0 hA2 fuel s0 x3 0 hf)
set_option maxRecDepth 100000 in
set_option maxHeartbeats 4000000 in
theorem c_X11_apartOf (l : Launch) (E : EV) (o0 : Nat) (n0 : Nat) (o2 : Nat) (n2 : Nat) {σ : ST} (hA0 : ARY o0 n0) (hA2 : ARY o2 n2) {p1 : Int32} {p3 : Int32} {rr : Int32} (hf : f_X11_apartOf o0 n0 o2 n2 σ p1 p3 = some rr) : CT l E yX11_apartOf cX11_apartOf 7 (some .int) rm_X11_apartOf [.ref (E.2.1 o0), .int p1, .ref (E.2.1 o2), .int p3] σ (some (.int rr)) σ := by
  refine CT.of RX11 rfl (by decide) (Nat.le_of_ble_eq_true rfl) rfl rfl (fun Γ C hR => ?_)
  show GW Γ 7 E σ 0 [(0, .ref (E.2.1 o0)), (1, .int p1), (2, .ref (E.2.1 o2)), (3, .int p3)] []
  rw [f_X11_apartOf] at hf
  refine g_iload_n C 1 dX11_apartOf_0 rfl ?_
  refine g_iload_n C 3 dX11_apartOf_1 rfl ?_
  obtain ⟨x1, ex1, hf⟩ := o_let hf
  have Kx1 : GW Γ 7 E σ 10 [(0, .ref (E.2.1 o0)), (1, .int p1), (2, .ref (E.2.1 o2)), (3, .int p3)] [.int x1] := by
    exact t_X11_apartOf_B10 C hR hA0 hA2 p1 p3 x1 hf
  refine g_icmp_ge (tgt := 9) C dX11_apartOf_2 (by decide) (fun c2 => ?_) (fun c2 => ?_)
  · rw [if_pos c2] at ex1
    refine g_iload_n C 3 dX11_apartOf_9 rfl ?_
    rw [← ex1] at Kx1
    exact g_lv [(0, .ref (E.2.1 o0)), (1, .int p1), (2, .ref (E.2.1 o2)), (3, .int p3)] [0, 1, 2, 3] rfl Kx1
  · rw [if_neg c2] at ex1
    refine g_iload_n C 1 dX11_apartOf_5 rfl ?_
    refine g_goto (tgt := 10) C dX11_apartOf_6 (by decide) ?_
    rw [← ex1] at Kx1
    exact g_lv [(0, .ref (E.2.1 o0)), (1, .int p1), (2, .ref (E.2.1 o2)), (3, .int p3)] [0, 1, 2, 3] rfl Kx1
abbrev rm_X11_apart : Room := { frames := 1, cells := 0, slots := 0, locals := 26 }
set_option maxRecDepth 100000 in
set_option maxHeartbeats 4000000 in
theorem c_X11_apart (l : Launch) (E : EV) {σ : ST} {rr : Int32} (hf : f_X11_apart σ = some rr) : CT l E yX11_apart cX11_apart 1 (some .int) rm_X11_apart [.ref (E.2.1 20)] σ (some (.int rr)) σ := by
  refine CT.of RX11 rfl (by decide) (Nat.le_of_ble_eq_true rfl) rfl rfl (fun Γ C hR => ?_)
  show GW Γ 1 E σ 0 [(0, .ref (E.2.1 20))] []
  rw [f_X11_apart] at hf
  refine g_aload_n C 0 dX11_apart_0 rfl ?_
  obtain ⟨r2, h1, hf⟩ := o_bind hf
  refine g_callV C 20 (c_X11_areBoth l E h1) cls_10 k_X11_251 ⟨rfl, rfl, Nat.le_of_ble_eq_true rfl, Nat.le_of_ble_eq_true rfl⟩ (by decide) rfl rfl (Nat.le_of_ble_eq_true rfl) dX11_apart_1 _ rfl ?_
  refine g_if_eq (y := 0) (tgt := 29) C dX11_apart_4 (by decide) (fun c3 => ?_) (fun c3 => ?_)
  · rw [if_pos c3] at hf
    refine g_bipush C dX11_apart_29 (v := (-103)) (by decide) ?_
    exact g_iretR C hR hf dX11_apart_31
  · rw [if_neg c3] at hf
    refine g_aload_n C 0 dX11_apart_7 rfl ?_
    refine fg_X11_22_20 C dX11_apart_8 ?_
    refine g_aload_n C 0 dX11_apart_11 rfl ?_
    refine fg_X11_135_20 C dX11_apart_12 ?_
    refine g_aload_n C 0 dX11_apart_15 rfl ?_
    refine fg_X11_25_20 C dX11_apart_16 ?_
    refine g_aload_n C 0 dX11_apart_19 rfl ?_
    refine fg_X11_138_20 C dX11_apart_20 ?_
    obtain ⟨r5, h4, hf⟩ := o_bind hf
    refine g_callS C (c_X11_apartOf l E 25 8 26 8 ar_25 ar_26 h4) k_X11_272 ⟨rfl, rfl, Nat.le_of_ble_eq_true rfl, Nat.le_of_ble_eq_true rfl⟩ rfl (Nat.le_of_ble_eq_true rfl) dX11_apart_23 _ rfl ?_
    refine g_goto (tgt := 31) C dX11_apart_26 (by decide) ?_
    exact g_iretR C hR hf dX11_apart_31
abbrev rm_X11_nearOf : Room := { frames := 4, cells := 0, slots := 0, locals := 91 }
set_option maxRecDepth 100000 in
set_option maxHeartbeats 4000000 in
theorem t_X11_nearOf_B99 {Γ : CX} {l : Launch} {E : EV} {rr : Int32} {ss : ST} (k_7 : Int32 → Int32 → Int32 → ST → Option (Int32 × ST)) (C : FX Γ l cX11_nearOf 5 RX11 rm_X11_nearOf E) (hR : RT Γ (some .int) E (some (.int rr)) ss) (hk_7 : ∀ (v1 : Int32) (v2 : Int32) (v3 : Int32) (σ : ST), k_7 v1 v2 v3 σ = some (rr, ss) → GW Γ 5 E σ 7 [(0, .ref (E.2.1 20)), (1, .int v1), (2, .int v2), (3, .int v3)] []) (v2 : Int32) (v3 : Int32) (v4 : Int32) (s0 : Int32) (σ : ST) (hf : f_X11_nearOf_B99 k_7 v2 v3 v4 s0 σ = some (rr, ss)) : GW Γ 5 E σ 99 [(0, .ref (E.2.1 20)), (2, .int v2), (3, .int v3), (4, .int v4)] [.int s0] := by
  rw [f_X11_nearOf_B99] at hf
  refine g_istore_n C dX11_nearOf_99 (by decide) [(1, .int s0), (0, .ref (E.2.1 20)), (2, .int v2), (3, .int v3), (4, .int v4)] rfl ?_
  refine g_iload C 4 dX11_nearOf_100 rfl ?_
  refine g_iload_n C 2 dX11_nearOf_102 rfl ?_
  obtain ⟨x18, ex18, hf⟩ := o_let hf
  have Kx18 : GW Γ 5 E σ 112 [(0, .ref (E.2.1 20)), (1, .int s0), (3, .int v3)] [.int x18] := by
    refine g_istore_n C dX11_nearOf_112 (by decide) [(2, .int x18), (0, .ref (E.2.1 20)), (1, .int s0), (3, .int v3)] rfl ?_
    obtain ⟨x20, hx20, hf⟩ := o_let hf
    refine g_iinc C 3 dX11_nearOf_113 rfl hx20 (by decide) [(3, .int x20), (2, .int x18), (0, .ref (E.2.1 20)), (1, .int s0)] rfl ?_
    refine g_goto (tgt := 7) C dX11_nearOf_116 (by decide) ?_
    exact g_lv [(0, .ref (E.2.1 20)), (1, .int s0), (2, .int x18), (3, .int x20)] [2, 3, 1, 0] rfl (hk_7 s0 x18 x20 σ hf)
  refine g_icmp_ge (tgt := 111) C dX11_nearOf_103 (by decide) (fun c19 => ?_) (fun c19 => ?_)
  · rw [if_pos c19] at ex18
    refine g_iload_n C 2 dX11_nearOf_111 rfl ?_
    rw [← ex18] at Kx18
    exact g_lv [(0, .ref (E.2.1 20)), (1, .int s0), (3, .int v3)] [1, 0, 3] rfl Kx18
  · rw [if_neg c19] at ex18
    refine g_iload C 4 dX11_nearOf_106 rfl ?_
    refine g_goto (tgt := 112) C dX11_nearOf_108 (by decide) ?_
    rw [← ex18] at Kx18
    exact g_lv [(0, .ref (E.2.1 20)), (1, .int s0), (3, .int v3)] [1, 0, 3] rfl Kx18
set_option maxRecDepth 100000 in
set_option maxHeartbeats 4000000 in
theorem t_X11_nearOf_L7 {Γ : CX} {l : Launch} {E : EV} {rr : Int32} {ss : ST} (C : FX Γ l cX11_nearOf 5 RX11 rm_X11_nearOf E) (hR : RT Γ (some .int) E (some (.int rr)) ss) : ∀ (n : Nat) (v1 : Int32) (v2 : Int32) (v3 : Int32) (σ : ST), f_X11_nearOf_L7 n v1 v2 v3 σ = some (rr, ss) → GW Γ 5 E σ 7 [(0, .ref (E.2.1 20)), (1, .int v1), (2, .int v2), (3, .int v3)] [] := by
  intro n
  induction n with
  | zero => intro v1 v2 v3 σ hf; exact nomatch hf
  | succ n ih =>
    intro v1 v2 v3 σ hf
    rw [f_X11_nearOf_L7] at hf
    refine g_iload_n C 3 dX11_nearOf_7 rfl ?_
    refine g_aload_n C 0 dX11_nearOf_8 rfl ?_
    refine fg_X11_108_20 C dX11_nearOf_9 ?_
    refine g_icmp_ge (tgt := 119) C dX11_nearOf_12 (by decide) (fun c1 => ?_) (fun c1 => ?_)
    · rw [if_pos c1] at hf
      refine g_iload_n C 1 dX11_nearOf_119 rfl ?_
      exact g_iretW C hR hf dX11_nearOf_120
    · rw [if_neg c1] at hf
      refine g_aload_n C 0 dX11_nearOf_15 rfl ?_
      refine g_iload_n C 3 dX11_nearOf_16 rfl ?_
      refine g_aload_n C 0 dX11_nearOf_17 rfl ?_
      refine fg_X11_111_20 C dX11_nearOf_18 ?_
      obtain ⟨r3, h2, hf⟩ := o_bind hf
      refine g_callV C 20 (c_X11_endsAt l E h2) cls_10 k_X11_224 ⟨rfl, rfl, Nat.le_of_ble_eq_true rfl, Nat.le_of_ble_eq_true rfl⟩ (by decide) rfl rfl (Nat.le_of_ble_eq_true rfl) dX11_nearOf_21 _ rfl ?_
      refine g_if_eq (y := 0) (tgt := 113) C dX11_nearOf_24 (by decide) (fun c4 => ?_) (fun c4 => ?_)
      · rw [if_pos c4] at hf
        obtain ⟨x5, hx5, hf⟩ := o_let hf
        refine g_iinc C 3 dX11_nearOf_113 rfl hx5 (by decide) [(3, .int x5), (0, .ref (E.2.1 20)), (1, .int v1), (2, .int v2)] rfl ?_
        refine g_goto (tgt := 7) C dX11_nearOf_116 (by decide) ?_
        exact g_lv [(0, .ref (E.2.1 20)), (1, .int v1), (2, .int v2), (3, .int x5)] [1, 2, 3, 0] rfl (ih v1 v2 x5 σ hf)
      · rw [if_neg c4] at hf
        refine g_aload_n C 0 dX11_nearOf_27 rfl ?_
        refine g_iload_n C 3 dX11_nearOf_28 rfl ?_
        refine g_aload_n C 0 dX11_nearOf_29 rfl ?_
        refine fg_X11_22_20 C dX11_nearOf_30 ?_
        refine g_aload_n C 0 dX11_nearOf_33 rfl ?_
        refine fg_X11_135_20 C dX11_nearOf_34 ?_
        obtain ⟨r7, h6, hf⟩ := o_bind hf
        refine g_callV C 20 (c_X11_isOpen l E 25 8 ar_25 h6) cls_10 k_X11_227 ⟨rfl, rfl, Nat.le_of_ble_eq_true rfl, Nat.le_of_ble_eq_true rfl⟩ (by decide) rfl rfl (Nat.le_of_ble_eq_true rfl) dX11_nearOf_37 _ rfl ?_
        refine g_if_eq (y := 0) (tgt := 113) C dX11_nearOf_40 (by decide) (fun c8 => ?_) (fun c8 => ?_)
        · rw [if_pos c8] at hf
          obtain ⟨x9, hx9, hf⟩ := o_let hf
          refine g_iinc C 3 dX11_nearOf_113 rfl hx9 (by decide) [(3, .int x9), (0, .ref (E.2.1 20)), (1, .int v1), (2, .int v2)] rfl ?_
          refine g_goto (tgt := 7) C dX11_nearOf_116 (by decide) ?_
          exact g_lv [(0, .ref (E.2.1 20)), (1, .int v1), (2, .int v2), (3, .int x9)] [1, 2, 3, 0] rfl (ih v1 v2 x9 σ hf)
        · rw [if_neg c8] at hf
          refine g_aload_n C 0 dX11_nearOf_43 rfl ?_
          refine fg_X11_22_20 C dX11_nearOf_44 ?_
          refine g_aload_n C 0 dX11_nearOf_47 rfl ?_
          refine fg_X11_31_20 C dX11_nearOf_48 ?_
          obtain ⟨σ11, h10, hf⟩ := o_bind hf
          refine g_callS C (c_X11_copy l E 25 8 28 8 ar_25 ar_28 h10) k_X11_195 ⟨rfl, rfl, Nat.le_of_ble_eq_true rfl, Nat.le_of_ble_eq_true rfl⟩ rfl (Nat.le_of_ble_eq_true rfl) dX11_nearOf_51 _ rfl ?_
          refine g_aload_n C 0 dX11_nearOf_54 rfl ?_
          refine g_iload_n C 3 dX11_nearOf_55 rfl ?_
          refine g_aload_n C 0 dX11_nearOf_56 rfl ?_
          refine fg_X11_31_20 C dX11_nearOf_57 ?_
          refine g_aload_n C 0 dX11_nearOf_60 rfl ?_
          refine fg_X11_135_20 C dX11_nearOf_61 ?_
          obtain ⟨σ13, h12, hf⟩ := o_bind hf
          refine g_callV C 20 (c_X11_goStreet l E 28 8 ar_28 h12) cls_10 k_X11_199 ⟨rfl, rfl, Nat.le_of_ble_eq_true rfl, Nat.le_of_ble_eq_true rfl⟩ (by decide) rfl rfl (Nat.le_of_ble_eq_true rfl) dX11_nearOf_64 _ rfl ?_
          refine g_aload_n C 0 dX11_nearOf_67 rfl ?_
          refine fg_X11_31_20 C dX11_nearOf_68 ?_
          refine g_aload_n C 0 dX11_nearOf_71 rfl ?_
          refine fg_X11_135_20 C dX11_nearOf_72 ?_
          refine g_aload_n C 0 dX11_nearOf_75 rfl ?_
          refine fg_X11_25_20 C dX11_nearOf_76 ?_
          refine g_aload_n C 0 dX11_nearOf_79 rfl ?_
          refine fg_X11_138_20 C dX11_nearOf_80 ?_
          obtain ⟨r15, h14, hf⟩ := o_bind hf
          refine g_callS C (c_X11_apartOf l E 28 8 26 8 ar_28 ar_26 h14) k_X11_272 ⟨rfl, rfl, Nat.le_of_ble_eq_true rfl, Nat.le_of_ble_eq_true rfl⟩ rfl (Nat.le_of_ble_eq_true rfl) dX11_nearOf_83 _ rfl ?_
          refine g_istore C dX11_nearOf_86 (by decide) [(4, .int r15), (0, .ref (E.2.1 20)), (1, .int v1), (2, .int v2), (3, .int v3)] rfl ?_
          refine g_iload C 0 dX11_nearOf_88 rfl ?_
          refine g_iload_n C 3 dX11_nearOf_90 rfl ?_
          obtain ⟨x16, ex16, hf⟩ := o_let hf
          have Kx16 : GW Γ 5 E σ13 99 [(0, .ref (E.2.1 20)), (2, .int v2), (3, .int v3), (4, .int r15)] [.int x16] := by
            exact t_X11_nearOf_B99 ((f_X11_nearOf_L7 n)) C hR ih v2 v3 r15 x16 σ13 hf
          refine g_icmp_ge (tgt := 98) C dX11_nearOf_91 (by decide) (fun c17 => ?_) (fun c17 => ?_)
          · rw [if_pos c17] at ex16
            refine g_iload_n C 2 dX11_nearOf_98 rfl ?_
            rw [← ex16] at Kx16
            exact g_lv [(0, .ref (E.2.1 20)), (2, .int v2), (3, .int v3), (4, .int r15)] [1, 3, 4, 0] rfl Kx16
          · rw [if_neg c17] at ex16
            refine g_iload_n C 4 dX11_nearOf_94 rfl ?_
            refine g_goto (tgt := 99) C dX11_nearOf_95 (by decide) ?_
            rw [← ex16] at Kx16
            exact g_lv [(0, .ref (E.2.1 20)), (2, .int v2), (3, .int v3), (4, .int r15)] [1, 3, 4, 0] rfl Kx16
set_option maxRecDepth 100000 in
set_option maxHeartbeats 4000000 in
theorem c_X11_nearOf (l : Launch) (E : EV) {σ ss : ST} {rr : Int32} (hf : f_X11_nearOf σ = some (rr, ss)) : CT l E yX11_nearOf cX11_nearOf 5 (some .int) rm_X11_nearOf [.ref (E.2.1 20)] σ (some (.int rr)) ss := by
  refine CT.of RX11 rfl (by decide) (Nat.le_of_ble_eq_true rfl) rfl rfl (fun Γ C hR => ?_)
  show GW Γ 5 E σ 0 [(0, .ref (E.2.1 20))] []
  rw [f_X11_nearOf] at hf
  refine g_iconst C dX11_nearOf_0 (v := (-1)) (by decide) ?_
  refine g_istore_n C dX11_nearOf_1 (by decide) [(1, .int (-1)), (0, .ref (E.2.1 20))] rfl ?_
  refine g_bipush C dX11_nearOf_2 (v := 9) (by decide) ?_
  refine g_istore_n C dX11_nearOf_4 (by decide) [(2, .int 9), (1, .int (-1)), (0, .ref (E.2.1 20))] rfl ?_
  refine g_iconst C dX11_nearOf_5 (v := 0) (by decide) ?_
  refine g_istore_n C dX11_nearOf_6 (by decide) [(3, .int 0), (2, .int 9), (1, .int (-1)), (0, .ref (E.2.1 20))] rfl ?_
  exact g_lv [(0, .ref (E.2.1 20)), (1, .int (-1)), (2, .int 9), (3, .int 0)] [3, 2, 1, 0] rfl (t_X11_nearOf_L7 C hR fuel (-1) 9 0 σ hf)
abbrev rm_X11_near : Room := { frames := 5, cells := 0, slots := 0, locals := 115 }
set_option maxRecDepth 100000 in
set_option maxHeartbeats 4000000 in
theorem c_X11_near (l : Launch) (E : EV) {σ ss : ST} {rr : Int32} (hf : f_X11_near σ = some (rr, ss)) : CT l E yX11_near cX11_near 1 (some .int) rm_X11_near [.ref (E.2.1 20)] σ (some (.int rr)) ss := by
  refine CT.of RX11 rfl (by decide) (Nat.le_of_ble_eq_true rfl) rfl rfl (fun Γ C hR => ?_)
  show GW Γ 1 E σ 0 [(0, .ref (E.2.1 20))] []
  rw [f_X11_near] at hf
  refine g_aload_n C 0 dX11_near_0 rfl ?_
  obtain ⟨r2, h1, hf⟩ := o_bind hf
  refine g_callV C 20 (c_X11_lacks l E h1) cls_10 k_X11_234 ⟨rfl, rfl, Nat.le_of_ble_eq_true rfl, Nat.le_of_ble_eq_true rfl⟩ (by decide) rfl rfl (Nat.le_of_ble_eq_true rfl) dX11_near_1 _ rfl ?_
  refine g_if_ne (y := 0) (tgt := 14) C dX11_near_4 (by decide) (fun c3 => ?_) (fun c3 => ?_)
  · rw [if_neg c3] at hf
    refine g_bipush C dX11_near_14 (v := (-103)) (by decide) ?_
    refine g_goto (tgt := 23) C dX11_near_16 (by decide) ?_
    exact g_iretW C hR hf dX11_near_23
  · rw [if_pos c3] at hf
    refine g_aload_n C 0 dX11_near_7 rfl ?_
    obtain ⟨r5, h4, hf⟩ := o_bind hf
    refine g_callV C 20 (c_X11_areBoth l E h4) cls_10 k_X11_251 ⟨rfl, rfl, Nat.le_of_ble_eq_true rfl, Nat.le_of_ble_eq_true rfl⟩ (by decide) rfl rfl (Nat.le_of_ble_eq_true rfl) dX11_near_8 _ rfl ?_
    refine g_if_ne (y := 0) (tgt := 19) C dX11_near_11 (by decide) (fun c6 => ?_) (fun c6 => ?_)
    · rw [if_neg c6] at hf
      refine g_aload_n C 0 dX11_near_19 rfl ?_
      obtain ⟨r9, σ8, h7, hf⟩ := o_bind2 hf
      refine g_callV C 20 (c_X11_nearOf l E h7) cls_10 k_X11_276 ⟨rfl, rfl, Nat.le_of_ble_eq_true rfl, Nat.le_of_ble_eq_true rfl⟩ (by decide) rfl rfl (Nat.le_of_ble_eq_true rfl) dX11_near_20 _ rfl ?_
      exact g_iretW C hR hf dX11_near_23
    · rw [if_pos c6] at hf
      refine g_bipush C dX11_near_14 (v := (-103)) (by decide) ?_
      refine g_goto (tgt := 23) C dX11_near_16 (by decide) ?_
      exact g_iretW C hR hf dX11_near_23
abbrev rm_X11_see : Room := { frames := 2, cells := 0, slots := 0, locals := 46 }
set_option maxRecDepth 100000 in
set_option maxHeartbeats 4000000 in
theorem c_X11_see (l : Launch) (E : EV) {σ ss : ST} {p0 : Int32} {p1 : Int32} {p2 : Int32} {rr : Int32} (hf : f_X11_see p0 p1 p2 σ = some (rr, ss)) : CT l E yX11_see cX11_see 4 (some .int) rm_X11_see [.ref (E.2.1 20), .int p0, .int p1, .int p2] σ (some (.int rr)) ss := by
  refine CT.of RX11 rfl (by decide) (Nat.le_of_ble_eq_true rfl) rfl rfl (fun Γ C hR => ?_)
  show GW Γ 4 E σ 0 [(0, .ref (E.2.1 20)), (1, .int p0), (2, .int p1), (3, .int p2)] []
  rw [f_X11_see] at hf
  refine g_aload_n C 0 dX11_see_0 rfl ?_
  refine g_iload_n C 1 dX11_see_1 rfl ?_
  obtain ⟨r2, h1, hf⟩ := o_bind hf
  refine g_callV C 20 (c_X11_isStreet l E h1) cls_10 k_X11_185 ⟨rfl, rfl, Nat.le_of_ble_eq_true rfl, Nat.le_of_ble_eq_true rfl⟩ (by decide) rfl rfl (Nat.le_of_ble_eq_true rfl) dX11_see_2 _ rfl ?_
  refine g_if_ne (y := 0) (tgt := 11) C dX11_see_5 (by decide) (fun c3 => ?_) (fun c3 => ?_)
  · rw [if_neg c3] at hf
    refine g_iload_n C 2 dX11_see_11 rfl ?_
    obtain ⟨r5, h4, hf⟩ := o_bind hf
    refine g_callS C (c_X11_isNote l E h4) k_X11_188 ⟨rfl, rfl, Nat.le_of_ble_eq_true rfl, Nat.le_of_ble_eq_true rfl⟩ rfl (Nat.le_of_ble_eq_true rfl) dX11_see_12 _ rfl ?_
    refine g_if_eq (y := 0) (tgt := 25) C dX11_see_15 (by decide) (fun c6 => ?_) (fun c6 => ?_)
    · rw [if_pos c6] at hf
      refine g_bipush C dX11_see_25 (v := (-102)) (by decide) ?_
      exact g_iretW C hR hf dX11_see_27
    · rw [if_neg c6] at hf
      refine g_iload_n C 3 dX11_see_18 rfl ?_
      obtain ⟨r8, h7, hf⟩ := o_bind hf
      refine g_callS C (c_X11_isNote l E h7) k_X11_188 ⟨rfl, rfl, Nat.le_of_ble_eq_true rfl, Nat.le_of_ble_eq_true rfl⟩ rfl (Nat.le_of_ble_eq_true rfl) dX11_see_19 _ rfl ?_
      refine g_if_ne (y := 0) (tgt := 28) C dX11_see_22 (by decide) (fun c9 => ?_) (fun c9 => ?_)
      · rw [if_neg c9] at hf
        refine g_aload_n C 0 dX11_see_28 rfl ?_
        refine fg_X11_121_20 C dX11_see_29 ?_
        refine g_bipush C dX11_see_32 (v := 6) (by decide) ?_
        refine g_icmp_ne (tgt := 40) C dX11_see_34 (by decide) (fun c10 => ?_) (fun c10 => ?_)
        · rw [if_neg c10] at hf
          refine g_aload_n C 0 dX11_see_40 rfl ?_
          refine fg_X11_46_20 C dX11_see_41 ?_
          refine g_iconst C dX11_see_44 (v := 3) (by decide) ?_
          refine g_aload_n C 0 dX11_see_45 rfl ?_
          refine fg_X11_121_20 C dX11_see_46 ?_
          refine g_imul C dX11_see_49 ?_
          refine g_iload_n C 1 dX11_see_50 rfl ?_
          obtain ⟨h12, hf⟩ := o_if hf
          obtain ⟨σ11, hσ11, hf⟩ := o_let hf
          refine g_ast C ar_33 dX11_see_51 (k := (3 * (σ.1 20 23)).toNatClampNeg) rfl h12 hσ11 ?_
          refine g_aload_n C 0 dX11_see_52 rfl ?_
          refine fg_X11_46_20 C dX11_see_53 ?_
          refine g_iconst C dX11_see_56 (v := 3) (by decide) ?_
          refine g_aload_n C 0 dX11_see_57 rfl ?_
          refine fg_X11_121_20 C dX11_see_58 ?_
          refine g_imul C dX11_see_61 ?_
          refine g_iconst C dX11_see_62 (v := 1) (by decide) ?_
          refine g_iadd C dX11_see_63 ?_
          refine g_iload_n C 2 dX11_see_64 rfl ?_
          obtain ⟨h14, hf⟩ := o_if hf
          obtain ⟨σ13, hσ13, hf⟩ := o_let hf
          refine g_ast C ar_33 dX11_see_65 (k := ((3 * (σ11.1 20 23)) + 1).toNatClampNeg) rfl h14 hσ13 ?_
          refine g_aload_n C 0 dX11_see_66 rfl ?_
          refine fg_X11_46_20 C dX11_see_67 ?_
          refine g_iconst C dX11_see_70 (v := 3) (by decide) ?_
          refine g_aload_n C 0 dX11_see_71 rfl ?_
          refine fg_X11_121_20 C dX11_see_72 ?_
          refine g_imul C dX11_see_75 ?_
          refine g_iconst C dX11_see_76 (v := 2) (by decide) ?_
          refine g_iadd C dX11_see_77 ?_
          refine g_iload_n C 3 dX11_see_78 rfl ?_
          obtain ⟨h16, hf⟩ := o_if hf
          obtain ⟨σ15, hσ15, hf⟩ := o_let hf
          refine g_ast C ar_33 dX11_see_79 (k := ((3 * (σ13.1 20 23)) + 2).toNatClampNeg) rfl h16 hσ15 ?_
          refine g_aload_n C 0 dX11_see_80 rfl ?_
          refine g_dup C dX11_see_81 rfl ?_
          refine fg_X11_121_20 C dX11_see_82 ?_
          refine g_iconst C dX11_see_85 (v := 1) (by decide) ?_
          refine g_iadd C dX11_see_86 ?_
          obtain ⟨σ17, hσ17, hf⟩ := o_let hf
          refine fp_X11_121_20 C dX11_see_87 hσ17 ?_
          refine g_aload_n C 0 dX11_see_90 rfl ?_
          refine fg_X11_121_20 C dX11_see_91 ?_
          exact g_iretW C hR hf dX11_see_94
        · rw [if_pos c10] at hf
          refine g_bipush C dX11_see_37 (v := (-104)) (by decide) ?_
          exact g_iretW C hR hf dX11_see_39
      · rw [if_pos c9] at hf
        refine g_bipush C dX11_see_25 (v := (-102)) (by decide) ?_
        exact g_iretW C hR hf dX11_see_27
  · rw [if_pos c3] at hf
    refine g_bipush C dX11_see_8 (v := (-101)) (by decide) ?_
    exact g_iretW C hR hf dX11_see_10
abbrev rm_X11_forget : Room := { frames := 0, cells := 0, slots := 0, locals := 0 }
set_option maxRecDepth 100000 in
set_option maxHeartbeats 4000000 in
theorem c_X11_forget (l : Launch) (E : EV) {σ ss : ST} {rr : Int32} (hf : f_X11_forget σ = some (rr, ss)) : CT l E yX11_forget cX11_forget 2 (some .int) rm_X11_forget [.ref (E.2.1 20)] σ (some (.int rr)) ss := by
  refine CT.of RX11 rfl (by decide) (Nat.le_of_ble_eq_true rfl) rfl rfl (fun Γ C hR => ?_)
  show GW Γ 2 E σ 0 [(0, .ref (E.2.1 20))] []
  rw [f_X11_forget] at hf
  refine g_aload_n C 0 dX11_forget_0 rfl ?_
  refine fg_X11_121_20 C dX11_forget_1 ?_
  obtain ⟨x1, hx1, hf⟩ := o_let hf
  refine g_topi hx1 ?_
  refine g_istore_n C dX11_forget_4 (by decide) [(1, .int x1), (0, .ref (E.2.1 20))] rfl ?_
  refine g_aload_n C 1 dX11_forget_5 rfl ?_
  refine g_iconst C dX11_forget_6 (v := 0) (by decide) ?_
  obtain ⟨σ2, hσ2, hf⟩ := o_let hf
  refine fp_X11_121_20 C dX11_forget_7 hσ2 ?_
  refine g_iload_n C 0 dX11_forget_10 rfl ?_
  exact g_iretW C hR hf dX11_forget_11
abbrev rm_X11_draw : Room := { frames := 0, cells := 0, slots := 0, locals := 0 }
set_option maxRecDepth 100000 in
set_option maxHeartbeats 4000000 in
theorem c_X11_draw (l : Launch) (E : EV) {σ ss : ST} {p0 : Int32} {rr : Int32} (hf : f_X11_draw p0 σ = some (rr, ss)) : CT l E yX11_draw cX11_draw 2 (some .int) rm_X11_draw [.ref (E.2.1 20), .int p0] σ (some (.int rr)) ss := by
  refine CT.of RX11 rfl (by decide) (Nat.le_of_ble_eq_true rfl) rfl rfl (fun Γ C hR => ?_)
  show GW Γ 2 E σ 0 [(0, .ref (E.2.1 20)), (1, .int p0)] []
  rw [f_X11_draw] at hf
  refine g_aload_n C 0 dX11_draw_0 rfl ?_
  refine g_ldc2 C dX11_draw_1 (v := 1103515245) kl_X11_279 ?_
  refine g_aload_n C 0 dX11_draw_4 rfl ?_
  refine fg_X11_281_20 C dX11_draw_5 ?_
  refine g_i2l C dX11_draw_8 ?_
  refine g_lmul C dX11_draw_9 ?_
  refine g_ldc2 C dX11_draw_10 (v := 12345) kl_X11_284 ?_
  refine g_ladd C dX11_draw_13 ?_
  refine g_ldc2 C dX11_draw_14 (v := 2147483647) kl_X11_286 ?_
  refine g_land C dX11_draw_17 ?_
  refine g_l2i C dX11_draw_18 ?_
  obtain ⟨σ1, hσ1, hf⟩ := o_let hf
  refine fp_X11_281_20 C dX11_draw_19 hσ1 ?_
  refine g_aload_n C 0 dX11_draw_22 rfl ?_
  refine fg_X11_281_20 C dX11_draw_23 ?_
  refine g_ldcw C dX11_draw_26 (v := 65536) kc_X11_288 ?_
  refine g_idiv C dX11_draw_29 (by decide) ?_
  refine g_iload_n C 1 dX11_draw_30 rfl ?_
  obtain ⟨h2, hf⟩ := o_if hf
  refine g_irem C dX11_draw_31 h2 ?_
  exact g_iretW C hR hf dX11_draw_32
abbrev rm_X11_endsMany : Room := { frames := 1, cells := 0, slots := 0, locals := 22 }
set_option maxRecDepth 100000 in
set_option maxHeartbeats 4000000 in
theorem t_X11_endsMany_L4 {Γ : CX} {l : Launch} {E : EV} {σ : ST} {rr : Int32} (C : FX Γ l cX11_endsMany 4 RX11 rm_X11_endsMany E) (hR : RT Γ (some .int) E (some (.int rr)) σ) : ∀ (n : Nat) (v1 : Int32) (v2 : Int32) (v3 : Int32), f_X11_endsMany_L4 σ n v1 v2 v3 = some rr → GW Γ 4 E σ 4 [(0, .ref (E.2.1 20)), (1, .int v1), (2, .int v2), (3, .int v3)] [] := by
  intro n
  induction n with
  | zero => intro v1 v2 v3 hf; exact nomatch hf
  | succ n ih =>
    intro v1 v2 v3 hf
    rw [f_X11_endsMany_L4] at hf
    refine g_iload_n C 3 dX11_endsMany_4 rfl ?_
    refine g_aload_n C 0 dX11_endsMany_5 rfl ?_
    refine fg_X11_108_20 C dX11_endsMany_6 ?_
    refine g_icmp_ge (tgt := 35) C dX11_endsMany_9 (by decide) (fun c1 => ?_) (fun c1 => ?_)
    · rw [if_pos c1] at hf
      refine g_iload_n C 2 dX11_endsMany_35 rfl ?_
      exact g_iretR C hR hf dX11_endsMany_36
    · rw [if_neg c1] at hf
      refine g_iload_n C 2 dX11_endsMany_12 rfl ?_
      refine g_aload_n C 0 dX11_endsMany_13 rfl ?_
      refine g_iload_n C 3 dX11_endsMany_14 rfl ?_
      refine g_iload_n C 1 dX11_endsMany_15 rfl ?_
      obtain ⟨r3, h2, hf⟩ := o_bind hf
      refine g_callV C 20 (c_X11_endsAt l E h2) cls_10 k_X11_224 ⟨rfl, rfl, Nat.le_of_ble_eq_true rfl, Nat.le_of_ble_eq_true rfl⟩ (by decide) rfl rfl (Nat.le_of_ble_eq_true rfl) dX11_endsMany_16 _ rfl ?_
      obtain ⟨x4, ex4, hf⟩ := o_let hf
      have Kx4 : GW Γ 4 E σ 27 [(0, .ref (E.2.1 20)), (1, .int v1), (3, .int v3)] [.int x4, .int v2] := by
        refine g_iadd C dX11_endsMany_27 ?_
        obtain ⟨x6, hx6, hf⟩ := o_let hf
        refine g_topi hx6 ?_
        refine g_istore_n C dX11_endsMany_28 (by decide) [(2, .int x6), (0, .ref (E.2.1 20)), (1, .int v1), (3, .int v3)] rfl ?_
        obtain ⟨x7, hx7, hf⟩ := o_let hf
        refine g_iinc C 3 dX11_endsMany_29 rfl hx7 (by decide) [(3, .int x7), (2, .int x6), (0, .ref (E.2.1 20)), (1, .int v1)] rfl ?_
        refine g_goto (tgt := 4) C dX11_endsMany_32 (by decide) ?_
        exact g_lv [(0, .ref (E.2.1 20)), (1, .int v1), (2, .int x6), (3, .int x7)] [2, 3, 1, 0] rfl (ih v1 x6 x7 hf)
      refine g_if_eq (y := 0) (tgt := 26) C dX11_endsMany_19 (by decide) (fun c5 => ?_) (fun c5 => ?_)
      · rw [if_pos c5] at ex4
        refine g_iconst C dX11_endsMany_26 (v := 0) (by decide) ?_
        rw [← ex4] at Kx4
        exact g_lv [(0, .ref (E.2.1 20)), (1, .int v1), (3, .int v3)] [0, 1, 3] rfl Kx4
      · rw [if_neg c5] at ex4
        refine g_iconst C dX11_endsMany_22 (v := 1) (by decide) ?_
        refine g_goto (tgt := 27) C dX11_endsMany_23 (by decide) ?_
        rw [← ex4] at Kx4
        exact g_lv [(0, .ref (E.2.1 20)), (1, .int v1), (3, .int v3)] [0, 1, 3] rfl Kx4
set_option maxRecDepth 100000 in
set_option maxHeartbeats 4000000 in
theorem c_X11_endsMany (l : Launch) (E : EV) {σ : ST} {p0 : Int32} {rr : Int32} (hf : f_X11_endsMany σ p0 = some rr) : CT l E yX11_endsMany cX11_endsMany 4 (some .int) rm_X11_endsMany [.ref (E.2.1 20), .int p0] σ (some (.int rr)) σ := by
  refine CT.of RX11 rfl (by decide) (Nat.le_of_ble_eq_true rfl) rfl rfl (fun Γ C hR => ?_)
  show GW Γ 4 E σ 0 [(0, .ref (E.2.1 20)), (1, .int p0)] []
  rw [f_X11_endsMany] at hf
  refine g_iconst C dX11_endsMany_0 (v := 0) (by decide) ?_
  refine g_istore_n C dX11_endsMany_1 (by decide) [(2, .int 0), (0, .ref (E.2.1 20)), (1, .int p0)] rfl ?_
  refine g_iconst C dX11_endsMany_2 (v := 0) (by decide) ?_
  refine g_istore_n C dX11_endsMany_3 (by decide) [(3, .int 0), (2, .int 0), (0, .ref (E.2.1 20)), (1, .int p0)] rfl ?_
  exact g_lv [(0, .ref (E.2.1 20)), (1, .int p0), (2, .int 0), (3, .int 0)] [2, 3, 1, 0] rfl (t_X11_endsMany_L4 C hR fuel p0 0 0 hf)
abbrev rm_X11_endsNo : Room := { frames := 1, cells := 0, slots := 0, locals := 22 }
set_option maxRecDepth 100000 in
set_option maxHeartbeats 4000000 in
theorem t_X11_endsNo_B19 {Γ : CX} {l : Launch} {E : EV} {σ : ST} {rr : Int32} (k_5 : Int32 → Int32 → Int32 → Option (Int32)) (C : FX Γ l cX11_endsNo 5 RX11 rm_X11_endsNo E) (hR : RT Γ (some .int) E (some (.int rr)) σ) (hk_5 : ∀ (v1 : Int32) (v3 : Int32) (v4 : Int32), k_5 v1 v3 v4 = some rr → GW Γ 5 E σ 5 [(0, .ref (E.2.1 20)), (1, .int v1), (3, .int v3), (4, .int v4)] []) (v1 : Int32) (v3 : Int32) (v4 : Int32) (hf : f_X11_endsNo_B19 σ k_5 v1 v3 v4 = some rr) : GW Γ 5 E σ 19 [(0, .ref (E.2.1 20)), (1, .int v1), (3, .int v3), (4, .int v4)] [] := by
  rw [f_X11_endsNo_B19] at hf
  refine g_iload C 3 dX11_endsNo_19 rfl ?_
  refine g_aload_n C 0 dX11_endsNo_21 rfl ?_
  refine g_iload_n C 2 dX11_endsNo_22 rfl ?_
  refine g_iload_n C 1 dX11_endsNo_23 rfl ?_
  obtain ⟨r5, h4, hf⟩ := o_bind hf
  refine g_callV C 20 (c_X11_endsAt l E h4) cls_10 k_X11_224 ⟨rfl, rfl, Nat.le_of_ble_eq_true rfl, Nat.le_of_ble_eq_true rfl⟩ (by decide) rfl rfl (Nat.le_of_ble_eq_true rfl) dX11_endsNo_24 _ rfl ?_
  obtain ⟨x6, ex6, hf⟩ := o_let hf
  have Kx6 : GW Γ 5 E σ 35 [(0, .ref (E.2.1 20)), (1, .int v1), (3, .int v3)] [.int x6, .int v4] := by
    refine g_isub C dX11_endsNo_35 ?_
    obtain ⟨x8, hx8, hf⟩ := o_let hf
    refine g_topi hx8 ?_
    refine g_istore C dX11_endsNo_36 (by decide) [(4, .int x8), (0, .ref (E.2.1 20)), (1, .int v1), (3, .int v3)] rfl ?_
    obtain ⟨x9, hx9, hf⟩ := o_let hf
    refine g_iinc C 3 dX11_endsNo_38 rfl hx9 (by decide) [(3, .int x9), (4, .int x8), (0, .ref (E.2.1 20)), (1, .int v1)] rfl ?_
    refine g_goto (tgt := 5) C dX11_endsNo_41 (by decide) ?_
    exact g_lv [(0, .ref (E.2.1 20)), (1, .int v1), (3, .int x9), (4, .int x8)] [2, 3, 0, 1] rfl (hk_5 v1 x9 x8 hf)
  refine g_if_eq (y := 0) (tgt := 34) C dX11_endsNo_27 (by decide) (fun c7 => ?_) (fun c7 => ?_)
  · rw [if_pos c7] at ex6
    refine g_iconst C dX11_endsNo_34 (v := 0) (by decide) ?_
    rw [← ex6] at Kx6
    exact g_lv [(0, .ref (E.2.1 20)), (1, .int v1), (3, .int v3)] [0, 1, 2] rfl Kx6
  · rw [if_neg c7] at ex6
    refine g_iconst C dX11_endsNo_30 (v := 1) (by decide) ?_
    refine g_goto (tgt := 35) C dX11_endsNo_31 (by decide) ?_
    rw [← ex6] at Kx6
    exact g_lv [(0, .ref (E.2.1 20)), (1, .int v1), (3, .int v3)] [0, 1, 2] rfl Kx6
set_option maxRecDepth 100000 in
set_option maxHeartbeats 4000000 in
theorem t_X11_endsNo_L5 {Γ : CX} {l : Launch} {E : EV} {σ : ST} {rr : Int32} (C : FX Γ l cX11_endsNo 5 RX11 rm_X11_endsNo E) (hR : RT Γ (some .int) E (some (.int rr)) σ) : ∀ (n : Nat) (v1 : Int32) (v3 : Int32) (v4 : Int32), f_X11_endsNo_L5 σ n v1 v3 v4 = some rr → GW Γ 5 E σ 5 [(0, .ref (E.2.1 20)), (1, .int v1), (3, .int v3), (4, .int v4)] [] := by
  intro n
  induction n with
  | zero => intro v1 v3 v4 hf; exact nomatch hf
  | succ n ih =>
    intro v1 v3 v4 hf
    rw [f_X11_endsNo_L5] at hf
    refine g_aload_n C 0 dX11_endsNo_5 rfl ?_
    refine g_iload_n C 2 dX11_endsNo_6 rfl ?_
    refine g_iload_n C 1 dX11_endsNo_7 rfl ?_
    obtain ⟨r2, h1, hf⟩ := o_bind hf
    refine g_callV C 20 (c_X11_endsAt l E h1) cls_10 k_X11_224 ⟨rfl, rfl, Nat.le_of_ble_eq_true rfl, Nat.le_of_ble_eq_true rfl⟩ (by decide) rfl rfl (Nat.le_of_ble_eq_true rfl) dX11_endsNo_8 _ rfl ?_
    refine g_if_eq (y := 0) (tgt := 19) C dX11_endsNo_11 (by decide) (fun c3 => ?_) (fun c3 => ?_)
    · rw [if_pos c3] at hf
      exact t_X11_endsNo_B19 ((f_X11_endsNo_L5 σ n)) C hR ih v1 v3 v4 hf
    · rw [if_neg c3] at hf
      refine g_iload C 3 dX11_endsNo_14 rfl ?_
      refine g_if_le (y := 0) (tgt := 44) C dX11_endsNo_16 (by decide) (fun c10 => ?_) (fun c10 => ?_)
      · rw [if_pos c10] at hf
        refine g_iload_n C 2 dX11_endsNo_44 rfl ?_
        exact g_iretR C hR hf dX11_endsNo_45
      · rw [if_neg c10] at hf
        exact t_X11_endsNo_B19 ((f_X11_endsNo_L5 σ n)) C hR ih v1 v3 v4 hf
set_option maxRecDepth 100000 in
set_option maxHeartbeats 4000000 in
theorem c_X11_endsNo (l : Launch) (E : EV) {σ : ST} {p0 : Int32} {p1 : Int32} {rr : Int32} (hf : f_X11_endsNo σ p0 p1 = some rr) : CT l E yX11_endsNo cX11_endsNo 5 (some .int) rm_X11_endsNo [.ref (E.2.1 20), .int p0, .int p1] σ (some (.int rr)) σ := by
  refine CT.of RX11 rfl (by decide) (Nat.le_of_ble_eq_true rfl) rfl rfl (fun Γ C hR => ?_)
  show GW Γ 5 E σ 0 [(0, .ref (E.2.1 20)), (1, .int p0), (2, .int p1)] []
  rw [f_X11_endsNo] at hf
  refine g_iconst C dX11_endsNo_0 (v := 0) (by decide) ?_
  refine g_istore_n C dX11_endsNo_1 (by decide) [(3, .int 0), (0, .ref (E.2.1 20)), (1, .int p0), (2, .int p1)] rfl ?_
  refine g_iload_n C 3 dX11_endsNo_2 rfl ?_
  refine g_istore C dX11_endsNo_3 (by decide) [(4, .int p1), (3, .int 0), (0, .ref (E.2.1 20)), (1, .int p0), (2, .int p1)] rfl ?_
  exact g_lv [(0, .ref (E.2.1 20)), (1, .int p0), (3, .int 0), (4, .int p1)] [2, 3, 1, 0] rfl (t_X11_endsNo_L5 C hR fuel p0 0 p1 hf)
