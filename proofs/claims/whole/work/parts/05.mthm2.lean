abbrev rm_X11_wander : Room := { frames := 4, cells := 0, slots := 0, locals := 91 }
set_option maxRecDepth 100000 in
set_option maxHeartbeats 4000000 in
theorem t_X11_wander_B188 {Γ : CX} {l : Launch} {E : EV} {rr : Int32} {ss : ST} (C : FX Γ l cX11_wander 9 RX11 rm_X11_wander E) (hR : RT Γ (some .int) E (some (.int rr)) ss) (v3 : Int32) (v4 : Int32) (v5 : Int32) (σ : ST) (hf : f_X11_wander_B188 v3 v4 v5 σ = some (rr, ss)) : GW Γ 9 E σ 188 [(0, .ref (E.2.1 20)), (3, .int v3), (4, .int v4), (5, .int v5)] [] := by
  rw [f_X11_wander_B188] at hf
  refine g_iload_n C 1 dX11_wander_188 rfl ?_
  refine g_if_ne (y := 0) (tgt := 197) C dX11_wander_189 (by decide) (fun c19 => ?_) (fun c19 => ?_)
  · rw [if_neg c19] at hf
    refine g_iload_n C 1 dX11_wander_197 rfl ?_
    refine g_iconst C dX11_wander_198 (v := 1) (by decide) ?_
    refine g_icmp_ne (tgt := 207) C dX11_wander_199 (by decide) (fun c20 => ?_) (fun c20 => ?_)
    · rw [if_neg c20] at hf
      refine g_aload_n C 0 dX11_wander_207 rfl ?_
      refine fg_X11_281_20 C dX11_wander_208 ?_
      exact g_iretW C hR hf dX11_wander_211
    · rw [if_pos c20] at hf
      refine g_iload C 2 dX11_wander_202 rfl ?_
      refine g_goto (tgt := 211) C dX11_wander_204 (by decide) ?_
      exact g_iretW C hR hf dX11_wander_211
  · rw [if_pos c19] at hf
    refine g_iload C 3 dX11_wander_192 rfl ?_
    refine g_goto (tgt := 211) C dX11_wander_194 (by decide) ?_
    exact g_iretW C hR hf dX11_wander_211
set_option maxRecDepth 100000 in
set_option maxHeartbeats 4000000 in
theorem t_X11_wander_B150 {Γ : CX} {l : Launch} {E : EV} {rr : Int32} {ss : ST} (k_76 : Int32 → Int32 → Int32 → Int32 → Int32 → ST → Option (Int32 × ST)) (C : FX Γ l cX11_wander 9 RX11 rm_X11_wander E) (hR : RT Γ (some .int) E (some (.int rr)) ss) (hk_76 : ∀ (v1 : Int32) (v3 : Int32) (v4 : Int32) (v5 : Int32) (v6 : Int32) (σ : ST), k_76 v1 v3 v4 v5 v6 σ = some (rr, ss) → GW Γ 9 E σ 76 [(0, .ref (E.2.1 20)), (1, .int v1), (3, .int v3), (4, .int v4), (5, .int v5), (6, .int v6)] []) (v1 : Int32) (v3 : Int32) (v4 : Int32) (v5 : Int32) (v6 : Int32) (σ : ST) (hf : f_X11_wander_B150 k_76 v1 v3 v4 v5 v6 σ = some (rr, ss)) : GW Γ 9 E σ 150 [(0, .ref (E.2.1 20)), (1, .int v1), (3, .int v3), (4, .int v4), (5, .int v5), (6, .int v6)] [] := by
  rw [f_X11_wander_B150] at hf
  refine g_iload C 4 dX11_wander_150 rfl ?_
  refine g_aload_n C 0 dX11_wander_152 rfl ?_
  refine fg_X11_31_20 C dX11_wander_153 ?_
  refine g_aload_n C 0 dX11_wander_156 rfl ?_
  refine fg_X11_135_20 C dX11_wander_157 ?_
  refine g_aload_n C 0 dX11_wander_160 rfl ?_
  refine fg_X11_25_20 C dX11_wander_161 ?_
  refine g_aload_n C 0 dX11_wander_164 rfl ?_
  refine fg_X11_138_20 C dX11_wander_165 ?_
  obtain ⟨r25, h24, hf⟩ := o_bind hf
  refine g_callS C (c_X11_isAs l E 28 8 26 8 ar_28 ar_26 h24) k_X11_203 ⟨rfl, rfl, Nat.le_of_ble_eq_true rfl, Nat.le_of_ble_eq_true rfl⟩ rfl (Nat.le_of_ble_eq_true rfl) dX11_wander_168 _ rfl ?_
  obtain ⟨x26, ex26, hf⟩ := o_let hf
  have Kx26 : GW Γ 9 E σ 179 [(0, .ref (E.2.1 20)), (1, .int v1), (3, .int v3), (4, .int v4), (6, .int v6)] [.int x26, .int v5] := by
    refine g_iadd C dX11_wander_179 ?_
    obtain ⟨x28, hx28, hf⟩ := o_let hf
    refine g_topi hx28 ?_
    refine g_istore C dX11_wander_180 (by decide) [(5, .int x28), (0, .ref (E.2.1 20)), (1, .int v1), (3, .int v3), (4, .int v4), (6, .int v6)] rfl ?_
    obtain ⟨x29, hx29, hf⟩ := o_let hf
    refine g_iinc C 5 dX11_wander_182 rfl hx29 (by decide) [(6, .int x29), (5, .int x28), (0, .ref (E.2.1 20)), (1, .int v1), (3, .int v3), (4, .int v4)] rfl ?_
    refine g_goto (tgt := 76) C dX11_wander_185 (by decide) ?_
    exact g_lv [(0, .ref (E.2.1 20)), (1, .int v1), (3, .int v3), (4, .int v4), (5, .int x28), (6, .int x29)] [2, 3, 4, 5, 1, 0] rfl (hk_76 v1 v3 v4 x28 x29 σ hf)
  refine g_if_eq (y := 0) (tgt := 178) C dX11_wander_171 (by decide) (fun c27 => ?_) (fun c27 => ?_)
  · rw [if_pos c27] at ex26
    refine g_iconst C dX11_wander_178 (v := 0) (by decide) ?_
    rw [← ex26] at Kx26
    exact g_lv [(0, .ref (E.2.1 20)), (1, .int v1), (3, .int v3), (4, .int v4), (6, .int v6)] [0, 1, 2, 3, 5] rfl Kx26
  · rw [if_neg c27] at ex26
    refine g_iconst C dX11_wander_174 (v := 1) (by decide) ?_
    refine g_goto (tgt := 179) C dX11_wander_175 (by decide) ?_
    rw [← ex26] at Kx26
    exact g_lv [(0, .ref (E.2.1 20)), (1, .int v1), (3, .int v3), (4, .int v4), (6, .int v6)] [0, 1, 2, 3, 5] rfl Kx26
set_option maxRecDepth 100000 in
set_option maxHeartbeats 4000000 in
theorem t_X11_wander_L76 {Γ : CX} {l : Launch} {E : EV} {rr : Int32} {ss : ST} (C : FX Γ l cX11_wander 9 RX11 rm_X11_wander E) (hR : RT Γ (some .int) E (some (.int rr)) ss) : ∀ (n : Nat) (v1 : Int32) (v3 : Int32) (v4 : Int32) (v5 : Int32) (v6 : Int32) (σ : ST), f_X11_wander_L76 n v1 v3 v4 v5 v6 σ = some (rr, ss) → GW Γ 9 E σ 76 [(0, .ref (E.2.1 20)), (1, .int v1), (3, .int v3), (4, .int v4), (5, .int v5), (6, .int v6)] [] := by
  intro n
  induction n with
  | zero => intro v1 v3 v4 v5 v6 σ hf; exact nomatch hf
  | succ n ih =>
    intro v1 v3 v4 v5 v6 σ hf
    rw [f_X11_wander_L76] at hf
    refine g_iload C 5 dX11_wander_76 rfl ?_
    refine g_iload_n C 1 dX11_wander_78 rfl ?_
    refine g_icmp_ge (tgt := 188) C dX11_wander_79 (by decide) (fun c18 => ?_) (fun c18 => ?_)
    · rw [if_pos c18] at hf
      exact g_lv [(0, .ref (E.2.1 20)), (3, .int v3), (4, .int v4), (5, .int v5)] [0, 2, 3, 4] rfl (t_X11_wander_B188 C hR v3 v4 v5 σ hf)
    · rw [if_neg c18] at hf
      refine g_aload_n C 0 dX11_wander_82 rfl ?_
      refine g_iload C 3 dX11_wander_83 rfl ?_
      obtain ⟨r22, h21, hf⟩ := o_bind hf
      refine g_callV C 20 (c_X11_endsMany l E h21) cls_10 k_X11_293 ⟨rfl, rfl, Nat.le_of_ble_eq_true rfl, Nat.le_of_ble_eq_true rfl⟩ (by decide) rfl rfl (Nat.le_of_ble_eq_true rfl) dX11_wander_85 _ rfl ?_
      refine g_istore C dX11_wander_88 (by decide) [(7, .int r22), (0, .ref (E.2.1 20)), (1, .int v1), (3, .int v3), (4, .int v4), (5, .int v5), (6, .int v6)] rfl ?_
      refine g_iload C 0 dX11_wander_90 rfl ?_
      refine g_if_le (y := 0) (tgt := 150) C dX11_wander_92 (by decide) (fun c23 => ?_) (fun c23 => ?_)
      · rw [if_pos c23] at hf
        exact g_lv [(0, .ref (E.2.1 20)), (1, .int v1), (3, .int v3), (4, .int v4), (5, .int v5), (6, .int v6)] [1, 2, 3, 4, 5, 6] rfl (t_X11_wander_B150 ((f_X11_wander_L76 n)) C hR ih v1 v3 v4 v5 v6 σ hf)
      · rw [if_neg c23] at hf
        refine g_aload_n C 1 dX11_wander_95 rfl ?_
        refine g_iload C 4 dX11_wander_96 rfl ?_
        refine g_aload_n C 1 dX11_wander_98 rfl ?_
        refine g_iload C 0 dX11_wander_99 rfl ?_
        obtain ⟨r32, σ31, h30, hf⟩ := o_bind2 hf
        refine g_callV C 20 (c_X11_draw l E h30) cls_10 k_X11_296 ⟨rfl, rfl, Nat.le_of_ble_eq_true rfl, Nat.le_of_ble_eq_true rfl⟩ (by decide) rfl rfl (Nat.le_of_ble_eq_true rfl) dX11_wander_101 _ rfl ?_
        obtain ⟨r34, h33, hf⟩ := o_bind hf
        refine g_callV C 20 (c_X11_endsNo l E h33) cls_10 k_X11_299 ⟨rfl, rfl, Nat.le_of_ble_eq_true rfl, Nat.le_of_ble_eq_true rfl⟩ (by decide) rfl rfl (Nat.le_of_ble_eq_true rfl) dX11_wander_104 _ rfl ?_
        refine g_istore C dX11_wander_107 (by decide) [(8, .int r34), (7, .int r22), (0, .ref (E.2.1 20)), (1, .int v1), (3, .int v3), (4, .int v4), (5, .int v5), (6, .int v6)] rfl ?_
        refine g_aload_n C 2 dX11_wander_109 rfl ?_
        refine g_iload C 0 dX11_wander_110 rfl ?_
        refine g_aload_n C 2 dX11_wander_112 rfl ?_
        refine fg_X11_31_20 C dX11_wander_113 ?_
        refine g_aload_n C 2 dX11_wander_116 rfl ?_
        refine fg_X11_135_20 C dX11_wander_117 ?_
        obtain ⟨r36, h35, hf⟩ := o_bind hf
        refine g_callV C 20 (c_X11_isOpen l E 28 8 ar_28 h35) cls_10 k_X11_227 ⟨rfl, rfl, Nat.le_of_ble_eq_true rfl, Nat.le_of_ble_eq_true rfl⟩ (by decide) rfl rfl (Nat.le_of_ble_eq_true rfl) dX11_wander_120 _ rfl ?_
        refine g_if_eq (y := 0) (tgt := 150) C dX11_wander_123 (by decide) (fun c37 => ?_) (fun c37 => ?_)
        · rw [if_pos c37] at hf
          exact g_lv [(0, .ref (E.2.1 20)), (1, .int v1), (3, .int v3), (4, .int v4), (5, .int v5), (6, .int v6)] [2, 3, 4, 5, 6, 7] rfl (t_X11_wander_B150 ((f_X11_wander_L76 n)) C hR ih v1 v3 v4 v5 v6 σ31 hf)
        · rw [if_neg c37] at hf
          refine g_aload_n C 2 dX11_wander_126 rfl ?_
          refine g_iload C 0 dX11_wander_127 rfl ?_
          refine g_aload_n C 2 dX11_wander_129 rfl ?_
          refine fg_X11_31_20 C dX11_wander_130 ?_
          refine g_aload_n C 2 dX11_wander_133 rfl ?_
          refine fg_X11_135_20 C dX11_wander_134 ?_
          obtain ⟨σ39, h38, hf⟩ := o_bind hf
          refine g_callV C 20 (c_X11_goStreet l E 28 8 ar_28 h38) cls_10 k_X11_199 ⟨rfl, rfl, Nat.le_of_ble_eq_true rfl, Nat.le_of_ble_eq_true rfl⟩ (by decide) rfl rfl (Nat.le_of_ble_eq_true rfl) dX11_wander_137 _ rfl ?_
          refine g_aload_n C 2 dX11_wander_140 rfl ?_
          refine g_iload C 0 dX11_wander_141 rfl ?_
          refine g_iload C 5 dX11_wander_143 rfl ?_
          obtain ⟨r41, h40, hf⟩ := o_bind hf
          refine g_callV C 20 (c_X11_otherEnd l E h40) cls_10 k_X11_231 ⟨rfl, rfl, Nat.le_of_ble_eq_true rfl, Nat.le_of_ble_eq_true rfl⟩ (by decide) rfl rfl (Nat.le_of_ble_eq_true rfl) dX11_wander_145 _ rfl ?_
          refine g_istore C dX11_wander_148 (by decide) [(4, .int r41), (8, .int r34), (7, .int r22), (0, .ref (E.2.1 20)), (1, .int v1), (3, .int v3), (5, .int v5), (6, .int v6)] rfl ?_
          exact g_lv [(0, .ref (E.2.1 20)), (1, .int v1), (3, .int v3), (4, .int r41), (5, .int v5), (6, .int v6)] [3, 4, 5, 0, 6, 7] rfl (t_X11_wander_B150 ((f_X11_wander_L76 n)) C hR ih v1 v3 r41 v5 v6 σ39 hf)
set_option maxRecDepth 100000 in
set_option maxHeartbeats 4000000 in
theorem c_X11_wander (l : Launch) (E : EV) {σ ss : ST} {p0 : Int32} {p1 : Int32} {p2 : Int32} {rr : Int32} (hf : f_X11_wander p0 p1 p2 σ = some (rr, ss)) : CT l E yX11_wander cX11_wander 9 (some .int) rm_X11_wander [.ref (E.2.1 20), .int p0, .int p1, .int p2] σ (some (.int rr)) ss := by
  refine CT.of RX11 rfl (by decide) (Nat.le_of_ble_eq_true rfl) rfl rfl (fun Γ C hR => ?_)
  show GW Γ 9 E σ 0 [(0, .ref (E.2.1 20)), (1, .int p0), (2, .int p1), (3, .int p2)] []
  rw [f_X11_wander] at hf
  refine g_iload_n C 1 dX11_wander_0 rfl ?_
  refine g_i2l C dX11_wander_1 ?_
  refine g_lconst C dX11_wander_2 (v := 1) (by decide) ?_
  refine g_ldc2 C dX11_wander_3 (v := 60) kl_X11_289 ?_
  obtain ⟨r2, h1, hf⟩ := o_bind hf
  refine g_callS C (c_X11_in l E h1) k_X11_73 ⟨rfl, rfl, Nat.le_of_ble_eq_true rfl, Nat.le_of_ble_eq_true rfl⟩ rfl (Nat.le_of_ble_eq_true rfl) dX11_wander_6 _ rfl ?_
  refine g_if_eq (y := 0) (tgt := 28) C dX11_wander_9 (by decide) (fun c3 => ?_) (fun c3 => ?_)
  · rw [if_pos c3] at hf
    refine g_bipush C dX11_wander_28 (v := (-102)) (by decide) ?_
    exact g_iretW C hR hf dX11_wander_30
  · rw [if_neg c3] at hf
    refine g_iload_n C 2 dX11_wander_12 rfl ?_
    refine g_if_lt (y := 0) (tgt := 28) C dX11_wander_13 (by decide) (fun c4 => ?_) (fun c4 => ?_)
    · rw [if_pos c4] at hf
      refine g_bipush C dX11_wander_28 (v := (-102)) (by decide) ?_
      exact g_iretW C hR hf dX11_wander_30
    · rw [if_neg c4] at hf
      refine g_iload_n C 3 dX11_wander_16 rfl ?_
      refine g_i2l C dX11_wander_17 ?_
      refine g_lconst C dX11_wander_18 (v := 0) (by decide) ?_
      refine g_ldc2 C dX11_wander_19 (v := 2) kl_X11_291 ?_
      obtain ⟨r6, h5, hf⟩ := o_bind hf
      refine g_callS C (c_X11_in l E h5) k_X11_73 ⟨rfl, rfl, Nat.le_of_ble_eq_true rfl, Nat.le_of_ble_eq_true rfl⟩ rfl (Nat.le_of_ble_eq_true rfl) dX11_wander_22 _ rfl ?_
      refine g_if_ne (y := 0) (tgt := 31) C dX11_wander_25 (by decide) (fun c7 => ?_) (fun c7 => ?_)
      · rw [if_neg c7] at hf
        refine g_aload_n C 0 dX11_wander_31 rfl ?_
        obtain ⟨r9, h8, hf⟩ := o_bind hf
        refine g_callV C 20 (c_X11_lacks l E h8) cls_10 k_X11_234 ⟨rfl, rfl, Nat.le_of_ble_eq_true rfl, Nat.le_of_ble_eq_true rfl⟩ (by decide) rfl rfl (Nat.le_of_ble_eq_true rfl) dX11_wander_32 _ rfl ?_
        refine g_if_ne (y := 0) (tgt := 45) C dX11_wander_35 (by decide) (fun c10 => ?_) (fun c10 => ?_)
        · rw [if_neg c10] at hf
          refine g_bipush C dX11_wander_45 (v := (-103)) (by decide) ?_
          exact g_iretW C hR hf dX11_wander_47
        · rw [if_pos c10] at hf
          refine g_aload_n C 0 dX11_wander_38 rfl ?_
          obtain ⟨r12, h11, hf⟩ := o_bind hf
          refine g_callV C 20 (c_X11_areBoth l E h11) cls_10 k_X11_251 ⟨rfl, rfl, Nat.le_of_ble_eq_true rfl, Nat.le_of_ble_eq_true rfl⟩ (by decide) rfl rfl (Nat.le_of_ble_eq_true rfl) dX11_wander_39 _ rfl ?_
          refine g_if_ne (y := 0) (tgt := 48) C dX11_wander_42 (by decide) (fun c13 => ?_) (fun c13 => ?_)
          · rw [if_neg c13] at hf
            refine g_aload_n C 0 dX11_wander_48 rfl ?_
            refine g_iload_n C 2 dX11_wander_49 rfl ?_
            obtain ⟨σ14, hσ14, hf⟩ := o_let hf
            refine fp_X11_281_20 C dX11_wander_50 hσ14 ?_
            refine g_aload_n C 0 dX11_wander_53 rfl ?_
            refine fg_X11_111_20 C dX11_wander_54 ?_
            obtain ⟨x15, hx15, hf⟩ := o_let hf
            refine g_topi hx15 ?_
            refine g_istore C dX11_wander_57 (by decide) [(4, .int x15), (0, .ref (E.2.1 20)), (1, .int p0), (2, .int p1), (3, .int p2)] rfl ?_
            refine g_iconst C dX11_wander_59 (v := 0) (by decide) ?_
            refine g_istore C dX11_wander_60 (by decide) [(5, .int 0), (4, .int x15), (0, .ref (E.2.1 20)), (1, .int p0), (2, .int p1), (3, .int p2)] rfl ?_
            refine g_aload_n C 2 dX11_wander_62 rfl ?_
            refine fg_X11_22_20 C dX11_wander_63 ?_
            refine g_aload_n C 2 dX11_wander_66 rfl ?_
            refine fg_X11_31_20 C dX11_wander_67 ?_
            obtain ⟨σ17, h16, hf⟩ := o_bind hf
            refine g_callS C (c_X11_copy l E 25 8 28 8 ar_25 ar_28 h16) k_X11_195 ⟨rfl, rfl, Nat.le_of_ble_eq_true rfl, Nat.le_of_ble_eq_true rfl⟩ rfl (Nat.le_of_ble_eq_true rfl) dX11_wander_70 _ rfl ?_
            refine g_iconst C dX11_wander_73 (v := 0) (by decide) ?_
            refine g_istore C dX11_wander_74 (by decide) [(6, .int 0), (5, .int 0), (4, .int x15), (0, .ref (E.2.1 20)), (1, .int p0), (2, .int p1), (3, .int p2)] rfl ?_
            exact g_lv [(0, .ref (E.2.1 20)), (1, .int p0), (3, .int p2), (4, .int x15), (5, .int 0), (6, .int 0)] [3, 4, 6, 2, 1, 0] rfl (t_X11_wander_L76 C hR fuel p0 p2 x15 0 0 σ17 hf)
          · rw [if_pos c13] at hf
            refine g_bipush C dX11_wander_45 (v := (-103)) (by decide) ?_
            exact g_iretW C hR hf dX11_wander_47
      · rw [if_pos c7] at hf
        refine g_bipush C dX11_wander_28 (v := (-102)) (by decide) ?_
        exact g_iretW C hR hf dX11_wander_30
abbrev rm_X11_image : Room := { frames := 1, cells := 0, slots := 0, locals := 22 }
set_option maxRecDepth 100000 in
set_option maxHeartbeats 4000000 in
theorem c_X11_image (l : Launch) (E : EV) {σ ss : ST} {rr : Int32} (hf : f_X11_image σ = some (rr, ss)) : CT l E yX11_image cX11_image 1 (some .int) rm_X11_image [.ref (E.2.1 20)] σ (some (.int rr)) ss := by
  refine CT.of RX11 rfl (by decide) (Nat.le_of_ble_eq_true rfl) rfl rfl (fun Γ C hR => ?_)
  show GW Γ 1 E σ 0 [(0, .ref (E.2.1 20))] []
  rw [f_X11_image] at hf
  refine g_aload_n C 0 dX11_image_0 rfl ?_
  obtain ⟨r2, h1, hf⟩ := o_bind hf
  refine g_callV C 20 (c_X11_lacks l E h1) cls_10 k_X11_234 ⟨rfl, rfl, Nat.le_of_ble_eq_true rfl, Nat.le_of_ble_eq_true rfl⟩ (by decide) rfl rfl (Nat.le_of_ble_eq_true rfl) dX11_image_1 _ rfl ?_
  refine g_if_eq (y := 0) (tgt := 10) C dX11_image_4 (by decide) (fun c3 => ?_) (fun c3 => ?_)
  · rw [if_pos c3] at hf
    refine g_aload_n C 0 dX11_image_10 rfl ?_
    refine fg_X11_16_20 C dX11_image_11 ?_
    refine g_aload_n C 0 dX11_image_14 rfl ?_
    refine fg_X11_52_20 C dX11_image_15 ?_
    obtain ⟨σ5, h4, hf⟩ := o_bind hf
    refine g_callS C (c_X11_copy l E 23 8 35 8 ar_23 ar_35 h4) k_X11_195 ⟨rfl, rfl, Nat.le_of_ble_eq_true rfl, Nat.le_of_ble_eq_true rfl⟩ rfl (Nat.le_of_ble_eq_true rfl) dX11_image_18 _ rfl ?_
    refine g_aload_n C 0 dX11_image_21 rfl ?_
    refine fg_X11_19_20 C dX11_image_22 ?_
    refine g_aload_n C 0 dX11_image_25 rfl ?_
    refine fg_X11_55_20 C dX11_image_26 ?_
    obtain ⟨σ7, h6, hf⟩ := o_bind hf
    refine g_callS C (c_X11_copy l E 24 8 36 8 ar_24 ar_36 h6) k_X11_195 ⟨rfl, rfl, Nat.le_of_ble_eq_true rfl, Nat.le_of_ble_eq_true rfl⟩ rfl (Nat.le_of_ble_eq_true rfl) dX11_image_29 _ rfl ?_
    refine g_aload_n C 0 dX11_image_32 rfl ?_
    refine fg_X11_22_20 C dX11_image_33 ?_
    refine g_aload_n C 0 dX11_image_36 rfl ?_
    refine fg_X11_58_20 C dX11_image_37 ?_
    obtain ⟨σ9, h8, hf⟩ := o_bind hf
    refine g_callS C (c_X11_copy l E 25 8 37 8 ar_25 ar_37 h8) k_X11_195 ⟨rfl, rfl, Nat.le_of_ble_eq_true rfl, Nat.le_of_ble_eq_true rfl⟩ rfl (Nat.le_of_ble_eq_true rfl) dX11_image_40 _ rfl ?_
    refine g_aload_n C 0 dX11_image_43 rfl ?_
    refine fg_X11_25_20 C dX11_image_44 ?_
    refine g_aload_n C 0 dX11_image_47 rfl ?_
    refine fg_X11_61_20 C dX11_image_48 ?_
    obtain ⟨σ11, h10, hf⟩ := o_bind hf
    refine g_callS C (c_X11_copy l E 26 8 38 8 ar_26 ar_38 h10) k_X11_195 ⟨rfl, rfl, Nat.le_of_ble_eq_true rfl, Nat.le_of_ble_eq_true rfl⟩ rfl (Nat.le_of_ble_eq_true rfl) dX11_image_51 _ rfl ?_
    refine g_aload_n C 0 dX11_image_54 rfl ?_
    refine fg_X11_46_20 C dX11_image_55 ?_
    refine g_aload_n C 0 dX11_image_58 rfl ?_
    refine fg_X11_64_20 C dX11_image_59 ?_
    obtain ⟨σ13, h12, hf⟩ := o_bind hf
    refine g_callS C (c_X11_copy l E 33 18 39 18 ar_33 ar_39 h12) k_X11_195 ⟨rfl, rfl, Nat.le_of_ble_eq_true rfl, Nat.le_of_ble_eq_true rfl⟩ rfl (Nat.le_of_ble_eq_true rfl) dX11_image_62 _ rfl ?_
    refine g_aload_n C 0 dX11_image_65 rfl ?_
    refine g_aload_n C 0 dX11_image_66 rfl ?_
    refine fg_X11_111_20 C dX11_image_67 ?_
    obtain ⟨σ14, hσ14, hf⟩ := o_let hf
    refine fp_X11_302_20 C dX11_image_70 hσ14 ?_
    refine g_aload_n C 0 dX11_image_73 rfl ?_
    refine g_aload_n C 0 dX11_image_74 rfl ?_
    refine fg_X11_114_20 C dX11_image_75 ?_
    obtain ⟨h16, hf⟩ := o_if hf
    obtain ⟨σ15, hσ15, hf⟩ := o_let hf
    refine fp_X11_305_20 C dX11_image_78 h16 hσ15 ?_
    refine g_aload_n C 0 dX11_image_81 rfl ?_
    refine g_aload_n C 0 dX11_image_82 rfl ?_
    refine fg_X11_118_20 C dX11_image_83 ?_
    obtain ⟨σ17, hσ17, hf⟩ := o_let hf
    refine fp_X11_308_20 C dX11_image_86 hσ17 ?_
    refine g_aload_n C 0 dX11_image_89 rfl ?_
    refine g_aload_n C 0 dX11_image_90 rfl ?_
    refine fg_X11_135_20 C dX11_image_91 ?_
    obtain ⟨σ18, hσ18, hf⟩ := o_let hf
    refine fp_X11_311_20 C dX11_image_94 hσ18 ?_
    refine g_aload_n C 0 dX11_image_97 rfl ?_
    refine g_aload_n C 0 dX11_image_98 rfl ?_
    refine fg_X11_138_20 C dX11_image_99 ?_
    obtain ⟨σ19, hσ19, hf⟩ := o_let hf
    refine fp_X11_314_20 C dX11_image_102 hσ19 ?_
    refine g_aload_n C 0 dX11_image_105 rfl ?_
    refine g_aload_n C 0 dX11_image_106 rfl ?_
    refine fg_X11_121_20 C dX11_image_107 ?_
    obtain ⟨σ20, hσ20, hf⟩ := o_let hf
    refine fp_X11_317_20 C dX11_image_110 hσ20 ?_
    refine g_aload_n C 0 dX11_image_113 rfl ?_
    refine g_aload_n C 0 dX11_image_114 rfl ?_
    refine fg_X11_124_20 C dX11_image_115 ?_
    obtain ⟨σ21, hσ21, hf⟩ := o_let hf
    refine fp_X11_67_20 C dX11_image_118 hσ21 ?_
    refine g_aload_n C 0 dX11_image_121 rfl ?_
    refine fg_X11_118_20 C dX11_image_122 ?_
    exact g_iretW C hR hf dX11_image_125
  · rw [if_neg c3] at hf
    refine g_bipush C dX11_image_7 (v := (-103)) (by decide) ?_
    exact g_iretW C hR hf dX11_image_9
abbrev rm_X11_restore : Room := { frames := 1, cells := 0, slots := 0, locals := 22 }
set_option maxRecDepth 100000 in
set_option maxHeartbeats 4000000 in
theorem c_X11_restore (l : Launch) (E : EV) {σ ss : ST} {rr : Int32} (hf : f_X11_restore σ = some (rr, ss)) : CT l E yX11_restore cX11_restore 1 (some .int) rm_X11_restore [.ref (E.2.1 20)] σ (some (.int rr)) ss := by
  refine CT.of RX11 rfl (by decide) (Nat.le_of_ble_eq_true rfl) rfl rfl (fun Γ C hR => ?_)
  show GW Γ 1 E σ 0 [(0, .ref (E.2.1 20))] []
  rw [f_X11_restore] at hf
  refine g_aload_n C 0 dX11_restore_0 rfl ?_
  refine fg_X11_67_20 C dX11_restore_1 ?_
  refine g_aload_n C 0 dX11_restore_4 rfl ?_
  refine fg_X11_124_20 C dX11_restore_5 ?_
  refine g_icmp_eq (tgt := 14) C dX11_restore_8 (by decide) (fun c1 => ?_) (fun c1 => ?_)
  · rw [if_pos c1] at hf
    refine g_aload_n C 0 dX11_restore_14 rfl ?_
    refine fg_X11_52_20 C dX11_restore_15 ?_
    refine g_aload_n C 0 dX11_restore_18 rfl ?_
    refine fg_X11_16_20 C dX11_restore_19 ?_
    obtain ⟨σ3, h2, hf⟩ := o_bind hf
    refine g_callS C (c_X11_copy l E 35 8 23 8 ar_35 ar_23 h2) k_X11_195 ⟨rfl, rfl, Nat.le_of_ble_eq_true rfl, Nat.le_of_ble_eq_true rfl⟩ rfl (Nat.le_of_ble_eq_true rfl) dX11_restore_22 _ rfl ?_
    refine g_aload_n C 0 dX11_restore_25 rfl ?_
    refine fg_X11_55_20 C dX11_restore_26 ?_
    refine g_aload_n C 0 dX11_restore_29 rfl ?_
    refine fg_X11_19_20 C dX11_restore_30 ?_
    obtain ⟨σ5, h4, hf⟩ := o_bind hf
    refine g_callS C (c_X11_copy l E 36 8 24 8 ar_36 ar_24 h4) k_X11_195 ⟨rfl, rfl, Nat.le_of_ble_eq_true rfl, Nat.le_of_ble_eq_true rfl⟩ rfl (Nat.le_of_ble_eq_true rfl) dX11_restore_33 _ rfl ?_
    refine g_aload_n C 0 dX11_restore_36 rfl ?_
    refine fg_X11_58_20 C dX11_restore_37 ?_
    refine g_aload_n C 0 dX11_restore_40 rfl ?_
    refine fg_X11_22_20 C dX11_restore_41 ?_
    obtain ⟨σ7, h6, hf⟩ := o_bind hf
    refine g_callS C (c_X11_copy l E 37 8 25 8 ar_37 ar_25 h6) k_X11_195 ⟨rfl, rfl, Nat.le_of_ble_eq_true rfl, Nat.le_of_ble_eq_true rfl⟩ rfl (Nat.le_of_ble_eq_true rfl) dX11_restore_44 _ rfl ?_
    refine g_aload_n C 0 dX11_restore_47 rfl ?_
    refine fg_X11_61_20 C dX11_restore_48 ?_
    refine g_aload_n C 0 dX11_restore_51 rfl ?_
    refine fg_X11_25_20 C dX11_restore_52 ?_
    obtain ⟨σ9, h8, hf⟩ := o_bind hf
    refine g_callS C (c_X11_copy l E 38 8 26 8 ar_38 ar_26 h8) k_X11_195 ⟨rfl, rfl, Nat.le_of_ble_eq_true rfl, Nat.le_of_ble_eq_true rfl⟩ rfl (Nat.le_of_ble_eq_true rfl) dX11_restore_55 _ rfl ?_
    refine g_aload_n C 0 dX11_restore_58 rfl ?_
    refine fg_X11_64_20 C dX11_restore_59 ?_
    refine g_aload_n C 0 dX11_restore_62 rfl ?_
    refine fg_X11_46_20 C dX11_restore_63 ?_
    obtain ⟨σ11, h10, hf⟩ := o_bind hf
    refine g_callS C (c_X11_copy l E 39 18 33 18 ar_39 ar_33 h10) k_X11_195 ⟨rfl, rfl, Nat.le_of_ble_eq_true rfl, Nat.le_of_ble_eq_true rfl⟩ rfl (Nat.le_of_ble_eq_true rfl) dX11_restore_66 _ rfl ?_
    refine g_aload_n C 0 dX11_restore_69 rfl ?_
    refine g_aload_n C 0 dX11_restore_70 rfl ?_
    refine fg_X11_302_20 C dX11_restore_71 ?_
    obtain ⟨σ12, hσ12, hf⟩ := o_let hf
    refine fp_X11_111_20 C dX11_restore_74 hσ12 ?_
    refine g_aload_n C 0 dX11_restore_77 rfl ?_
    refine g_aload_n C 0 dX11_restore_78 rfl ?_
    refine fg_X11_305_20 C dX11_restore_79 ?_
    obtain ⟨h14, hf⟩ := o_if hf
    obtain ⟨σ13, hσ13, hf⟩ := o_let hf
    refine fp_X11_114_20 C dX11_restore_82 h14 hσ13 ?_
    refine g_aload_n C 0 dX11_restore_85 rfl ?_
    refine g_aload_n C 0 dX11_restore_86 rfl ?_
    refine fg_X11_308_20 C dX11_restore_87 ?_
    obtain ⟨σ15, hσ15, hf⟩ := o_let hf
    refine fp_X11_118_20 C dX11_restore_90 hσ15 ?_
    refine g_aload_n C 0 dX11_restore_93 rfl ?_
    refine g_aload_n C 0 dX11_restore_94 rfl ?_
    refine fg_X11_311_20 C dX11_restore_95 ?_
    obtain ⟨σ16, hσ16, hf⟩ := o_let hf
    refine fp_X11_135_20 C dX11_restore_98 hσ16 ?_
    refine g_aload_n C 0 dX11_restore_101 rfl ?_
    refine g_aload_n C 0 dX11_restore_102 rfl ?_
    refine fg_X11_314_20 C dX11_restore_103 ?_
    obtain ⟨σ17, hσ17, hf⟩ := o_let hf
    refine fp_X11_138_20 C dX11_restore_106 hσ17 ?_
    refine g_aload_n C 0 dX11_restore_109 rfl ?_
    refine g_aload_n C 0 dX11_restore_110 rfl ?_
    refine fg_X11_317_20 C dX11_restore_111 ?_
    obtain ⟨σ18, hσ18, hf⟩ := o_let hf
    refine fp_X11_121_20 C dX11_restore_114 hσ18 ?_
    refine g_aload_n C 0 dX11_restore_117 rfl ?_
    refine fg_X11_118_20 C dX11_restore_118 ?_
    exact g_iretW C hR hf dX11_restore_121
  · rw [if_neg c1] at hf
    refine g_bipush C dX11_restore_11 (v := (-103)) (by decide) ?_
    exact g_iretW C hR hf dX11_restore_13
abbrev rm_X11_openMany : Room := { frames := 3, cells := 0, slots := 0, locals := 67 }
set_option maxRecDepth 100000 in
set_option maxHeartbeats 4000000 in
theorem t_X11_openMany_L4 {Γ : CX} {l : Launch} {E : EV} {σ : ST} {rr : Int32} (C : FX Γ l cX11_openMany 3 RX11 rm_X11_openMany E) (hR : RT Γ (some .int) E (some (.int rr)) σ) : ∀ (n : Nat) (v1 : Int32) (v2 : Int32), f_X11_openMany_L4 σ n v1 v2 = some rr → GW Γ 3 E σ 4 [(0, .ref (E.2.1 20)), (1, .int v1), (2, .int v2)] [] := by
  intro n
  induction n with
  | zero => intro v1 v2 hf; exact nomatch hf
  | succ n ih =>
    intro v1 v2 hf
    rw [f_X11_openMany_L4] at hf
    refine g_iload_n C 2 dX11_openMany_4 rfl ?_
    refine g_aload_n C 0 dX11_openMany_5 rfl ?_
    refine fg_X11_108_20 C dX11_openMany_6 ?_
    refine g_icmp_ge (tgt := 61) C dX11_openMany_9 (by decide) (fun c1 => ?_) (fun c1 => ?_)
    · rw [if_pos c1] at hf
      refine g_iload_n C 1 dX11_openMany_61 rfl ?_
      exact g_iretR C hR hf dX11_openMany_62
    · rw [if_neg c1] at hf
      refine g_aload_n C 0 dX11_openMany_12 rfl ?_
      refine fg_X11_135_20 C dX11_openMany_13 ?_
      refine g_if_le (y := 0) (tgt := 61) C dX11_openMany_16 (by decide) (fun c2 => ?_) (fun c2 => ?_)
      · rw [if_pos c2] at hf
        refine g_iload_n C 1 dX11_openMany_61 rfl ?_
        exact g_iretR C hR hf dX11_openMany_62
      · rw [if_neg c2] at hf
        refine g_iload_n C 1 dX11_openMany_19 rfl ?_
        refine g_aload_n C 0 dX11_openMany_20 rfl ?_
        refine g_iload_n C 2 dX11_openMany_21 rfl ?_
        refine g_aload_n C 0 dX11_openMany_22 rfl ?_
        refine fg_X11_111_20 C dX11_openMany_23 ?_
        obtain ⟨r4, h3, hf⟩ := o_bind hf
        refine g_callV C 20 (c_X11_endsAt l E h3) cls_10 k_X11_224 ⟨rfl, rfl, Nat.le_of_ble_eq_true rfl, Nat.le_of_ble_eq_true rfl⟩ (by decide) rfl rfl (Nat.le_of_ble_eq_true rfl) dX11_openMany_26 _ rfl ?_
        obtain ⟨x5, ex5, hf⟩ := o_bind hf
        have Kx5 : GW Γ 3 E σ 53 [(0, .ref (E.2.1 20)), (2, .int v2)] [.int x5, .int v1] := by
          refine g_iadd C dX11_openMany_53 ?_
          obtain ⟨x10, hx10, hf⟩ := o_let hf
          refine g_topi hx10 ?_
          refine g_istore_n C dX11_openMany_54 (by decide) [(1, .int x10), (0, .ref (E.2.1 20)), (2, .int v2)] rfl ?_
          obtain ⟨x11, hx11, hf⟩ := o_let hf
          refine g_iinc C 2 dX11_openMany_55 rfl hx11 (by decide) [(2, .int x11), (1, .int x10), (0, .ref (E.2.1 20))] rfl ?_
          refine g_goto (tgt := 4) C dX11_openMany_58 (by decide) ?_
          exact g_lv [(0, .ref (E.2.1 20)), (1, .int x10), (2, .int x11)] [2, 1, 0] rfl (ih x10 x11 hf)
        refine g_if_eq (y := 0) (tgt := 52) C dX11_openMany_29 (by decide) (fun c6 => ?_) (fun c6 => ?_)
        · rw [if_pos c6] at ex5
          refine g_iconst C dX11_openMany_52 (v := 0) (by decide) ?_
          rw [← Option.some.inj ex5] at Kx5
          exact g_lv [(0, .ref (E.2.1 20)), (2, .int v2)] [0, 2] rfl Kx5
        · rw [if_neg c6] at ex5
          refine g_aload_n C 0 dX11_openMany_32 rfl ?_
          refine g_iload_n C 2 dX11_openMany_33 rfl ?_
          refine g_aload_n C 0 dX11_openMany_34 rfl ?_
          refine fg_X11_22_20 C dX11_openMany_35 ?_
          refine g_aload_n C 0 dX11_openMany_38 rfl ?_
          refine fg_X11_135_20 C dX11_openMany_39 ?_
          obtain ⟨r8, h7, ex5⟩ := o_bind ex5
          refine g_callV C 20 (c_X11_isOpen l E 25 8 ar_25 h7) cls_10 k_X11_227 ⟨rfl, rfl, Nat.le_of_ble_eq_true rfl, Nat.le_of_ble_eq_true rfl⟩ (by decide) rfl rfl (Nat.le_of_ble_eq_true rfl) dX11_openMany_42 _ rfl ?_
          refine g_if_eq (y := 0) (tgt := 52) C dX11_openMany_45 (by decide) (fun c9 => ?_) (fun c9 => ?_)
          · rw [if_pos c9] at ex5
            refine g_iconst C dX11_openMany_52 (v := 0) (by decide) ?_
            rw [← Option.some.inj ex5] at Kx5
            exact g_lv [(0, .ref (E.2.1 20)), (2, .int v2)] [0, 2] rfl Kx5
          · rw [if_neg c9] at ex5
            refine g_iconst C dX11_openMany_48 (v := 1) (by decide) ?_
            refine g_goto (tgt := 53) C dX11_openMany_49 (by decide) ?_
            rw [← Option.some.inj ex5] at Kx5
            exact g_lv [(0, .ref (E.2.1 20)), (2, .int v2)] [0, 2] rfl Kx5
set_option maxRecDepth 100000 in
set_option maxHeartbeats 4000000 in
theorem c_X11_openMany (l : Launch) (E : EV) {σ : ST} {rr : Int32} (hf : f_X11_openMany σ = some rr) : CT l E yX11_openMany cX11_openMany 3 (some .int) rm_X11_openMany [.ref (E.2.1 20)] σ (some (.int rr)) σ := by
  refine CT.of RX11 rfl (by decide) (Nat.le_of_ble_eq_true rfl) rfl rfl (fun Γ C hR => ?_)
  show GW Γ 3 E σ 0 [(0, .ref (E.2.1 20))] []
  rw [f_X11_openMany] at hf
  refine g_iconst C dX11_openMany_0 (v := 0) (by decide) ?_
  refine g_istore_n C dX11_openMany_1 (by decide) [(1, .int 0), (0, .ref (E.2.1 20))] rfl ?_
  refine g_iconst C dX11_openMany_2 (v := 0) (by decide) ?_
  refine g_istore_n C dX11_openMany_3 (by decide) [(2, .int 0), (1, .int 0), (0, .ref (E.2.1 20))] rfl ?_
  exact g_lv [(0, .ref (E.2.1 20)), (1, .int 0), (2, .int 0)] [2, 1, 0] rfl (t_X11_openMany_L4 C hR fuel 0 0 hf)
abbrev rm_X11_countOf : Room := { frames := 4, cells := 0, slots := 0, locals := 89 }
set_option maxRecDepth 100000 in
set_option maxHeartbeats 4000000 in
theorem c_X11_countOf (l : Launch) (E : EV) {σ : ST} {p0 : Int32} {rr : Int32} (hf : f_X11_countOf σ p0 = some rr) : CT l E yX11_countOf cX11_countOf 2 (some .int) rm_X11_countOf [.ref (E.2.1 20), .int p0] σ (some (.int rr)) σ := by
  refine CT.of RX11 rfl (by decide) (Nat.le_of_ble_eq_true rfl) rfl rfl (fun Γ C hR => ?_)
  show GW Γ 2 E σ 0 [(0, .ref (E.2.1 20)), (1, .int p0)] []
  rw [f_X11_countOf] at hf
  refine g_iload_n C 1 dX11_countOf_0 rfl ?_
  by_cases c1 : p0 = 0
  · rw [if_pos c1] at hf
    refine g_tabIn C 0 (tgt := 68) dX11_countOf_1 c1 (by decide) (by decide) rfl (by decide) ?_
    refine g_aload_n C 0 dX11_countOf_68 rfl ?_
    refine fg_X11_105_20 C dX11_countOf_69 ?_
    exact g_iretR C hR hf dX11_countOf_72
  rw [if_neg c1] at hf
  by_cases c2 : p0 = 1
  · rw [if_pos c2] at hf
    refine g_tabIn C 1 (tgt := 73) dX11_countOf_1 c2 (by decide) (by decide) rfl (by decide) ?_
    refine g_aload_n C 0 dX11_countOf_73 rfl ?_
    refine fg_X11_108_20 C dX11_countOf_74 ?_
    exact g_iretR C hR hf dX11_countOf_77
  rw [if_neg c2] at hf
  by_cases c3 : p0 = 2
  · rw [if_pos c3] at hf
    refine g_tabIn C 2 (tgt := 78) dX11_countOf_1 c3 (by decide) (by decide) rfl (by decide) ?_
    refine g_aload_n C 0 dX11_countOf_78 rfl ?_
    refine fg_X11_111_20 C dX11_countOf_79 ?_
    exact g_iretR C hR hf dX11_countOf_82
  rw [if_neg c3] at hf
  by_cases c4 : p0 = 3
  · rw [if_pos c4] at hf
    refine g_tabIn C 3 (tgt := 83) dX11_countOf_1 c4 (by decide) (by decide) rfl (by decide) ?_
    refine g_aload_n C 0 dX11_countOf_83 rfl ?_
    refine fg_X11_114_20 C dX11_countOf_84 ?_
    refine g_if_eq (y := 0) (tgt := 94) C dX11_countOf_87 (by decide) (fun c5 => ?_) (fun c5 => ?_)
    · rw [if_pos c5] at hf
      refine g_iconst C dX11_countOf_94 (v := 0) (by decide) ?_
      exact g_iretR C hR hf dX11_countOf_95
    · rw [if_neg c5] at hf
      refine g_iconst C dX11_countOf_90 (v := 1) (by decide) ?_
      refine g_goto (tgt := 95) C dX11_countOf_91 (by decide) ?_
      exact g_iretR C hR hf dX11_countOf_95
  rw [if_neg c4] at hf
  by_cases c6 : p0 = 4
  · rw [if_pos c6] at hf
    refine g_tabIn C 4 (tgt := 96) dX11_countOf_1 c6 (by decide) (by decide) rfl (by decide) ?_
    refine g_aload_n C 0 dX11_countOf_96 rfl ?_
    refine g_aload_n C 0 dX11_countOf_97 rfl ?_
    refine fg_X11_111_20 C dX11_countOf_98 ?_
    obtain ⟨r8, h7, hf⟩ := o_bind hf
    refine g_callV C 20 (c_X11_endsMany l E h7) cls_10 k_X11_293 ⟨rfl, rfl, Nat.le_of_ble_eq_true rfl, Nat.le_of_ble_eq_true rfl⟩ (by decide) rfl rfl (Nat.le_of_ble_eq_true rfl) dX11_countOf_101 _ rfl ?_
    exact g_iretR C hR hf dX11_countOf_104
  rw [if_neg c6] at hf
  by_cases c9 : p0 = 5
  · rw [if_pos c9] at hf
    refine g_tabIn C 5 (tgt := 105) dX11_countOf_1 c9 (by decide) (by decide) rfl (by decide) ?_
    refine g_aload_n C 0 dX11_countOf_105 rfl ?_
    obtain ⟨r11, h10, hf⟩ := o_bind hf
    refine g_callV C 20 (c_X11_openMany l E h10) cls_10 k_X11_320 ⟨rfl, rfl, Nat.le_of_ble_eq_true rfl, Nat.le_of_ble_eq_true rfl⟩ (by decide) rfl rfl (Nat.le_of_ble_eq_true rfl) dX11_countOf_106 _ rfl ?_
    exact g_iretR C hR hf dX11_countOf_109
  rw [if_neg c9] at hf
  by_cases c12 : p0 = 6
  · rw [if_pos c12] at hf
    refine g_tabIn C 6 (tgt := 110) dX11_countOf_1 c12 (by decide) (by decide) rfl (by decide) ?_
    refine g_aload_n C 0 dX11_countOf_110 rfl ?_
    refine fg_X11_118_20 C dX11_countOf_111 ?_
    exact g_iretR C hR hf dX11_countOf_114
  rw [if_neg c12] at hf
  by_cases c13 : p0 = 7
  · rw [if_pos c13] at hf
    refine g_tabIn C 7 (tgt := 115) dX11_countOf_1 c13 (by decide) (by decide) rfl (by decide) ?_
    refine g_aload_n C 0 dX11_countOf_115 rfl ?_
    refine g_iload_n C 1 dX11_countOf_116 rfl ?_
    refine g_bipush C dX11_countOf_117 (v := 7) (by decide) ?_
    refine g_isub C dX11_countOf_119 ?_
    obtain ⟨r15, h14, hf⟩ := o_bind hf
    refine g_callV C 20 (c_X11_manyOf l E h14) cls_10 k_X11_141 ⟨rfl, rfl, Nat.le_of_ble_eq_true rfl, Nat.le_of_ble_eq_true rfl⟩ (by decide) rfl rfl (Nat.le_of_ble_eq_true rfl) dX11_countOf_120 _ rfl ?_
    exact g_iretR C hR hf dX11_countOf_123
  rw [if_neg c13] at hf
  by_cases c16 : p0 = 8
  · rw [if_pos c16] at hf
    refine g_tabIn C 8 (tgt := 115) dX11_countOf_1 c16 (by decide) (by decide) rfl (by decide) ?_
    refine g_aload_n C 0 dX11_countOf_115 rfl ?_
    refine g_iload_n C 1 dX11_countOf_116 rfl ?_
    refine g_bipush C dX11_countOf_117 (v := 7) (by decide) ?_
    refine g_isub C dX11_countOf_119 ?_
    obtain ⟨r18, h17, hf⟩ := o_bind hf
    refine g_callV C 20 (c_X11_manyOf l E h17) cls_10 k_X11_141 ⟨rfl, rfl, Nat.le_of_ble_eq_true rfl, Nat.le_of_ble_eq_true rfl⟩ (by decide) rfl rfl (Nat.le_of_ble_eq_true rfl) dX11_countOf_120 _ rfl ?_
    exact g_iretR C hR hf dX11_countOf_123
  rw [if_neg c16] at hf
  by_cases c19 : p0 = 9
  · rw [if_pos c19] at hf
    refine g_tabIn C 9 (tgt := 124) dX11_countOf_1 c19 (by decide) (by decide) rfl (by decide) ?_
    refine g_aload_n C 0 dX11_countOf_124 rfl ?_
    refine fg_X11_121_20 C dX11_countOf_125 ?_
    exact g_iretR C hR hf dX11_countOf_128
  rw [if_neg c19] at hf
  by_cases c20 : p0 = 10
  · rw [if_pos c20] at hf
    refine g_tabIn C 10 (tgt := 129) dX11_countOf_1 c20 (by decide) (by decide) rfl (by decide) ?_
    refine g_aload_n C 0 dX11_countOf_129 rfl ?_
    refine fg_X11_77_20 C dX11_countOf_130 ?_
    exact g_iretR C hR hf dX11_countOf_133
  rw [if_neg c20] at hf
  by_cases c21 : p0 = 11
  · rw [if_pos c21] at hf
    refine g_tabIn C 11 (tgt := 134) dX11_countOf_1 c21 (by decide) (by decide) rfl (by decide) ?_
    refine g_aload_n C 0 dX11_countOf_134 rfl ?_
    refine fg_X11_124_20 C dX11_countOf_135 ?_
    exact g_iretR C hR hf dX11_countOf_138
  rw [if_neg c21] at hf
  by_cases c22 : p0 = 12
  · rw [if_pos c22] at hf
    refine g_tabIn C 12 (tgt := 139) dX11_countOf_1 c22 (by decide) (by decide) rfl (by decide) ?_
    refine g_aload_n C 0 dX11_countOf_139 rfl ?_
    refine fg_X11_254_20 C dX11_countOf_140 ?_
    exact g_iretR C hR hf dX11_countOf_143
  rw [if_neg c22] at hf
  refine g_tabOut (tgt := 144) C dX11_countOf_1 (by have qc1 := lv_neT c1 (show (0 : Int32).toInt = 0 by decide); have qc2 := lv_neT c2 (show (1 : Int32).toInt = 1 by decide); have qc3 := lv_neT c3 (show (2 : Int32).toInt = 2 by decide); have qc4 := lv_neT c4 (show (3 : Int32).toInt = 3 by decide); have qc6 := lv_neT c6 (show (4 : Int32).toInt = 4 by decide); have qc9 := lv_neT c9 (show (5 : Int32).toInt = 5 by decide); have qc12 := lv_neT c12 (show (6 : Int32).toInt = 6 by decide); have qc13 := lv_neT c13 (show (7 : Int32).toInt = 7 by decide); have qc16 := lv_neT c16 (show (8 : Int32).toInt = 8 by decide); have qc19 := lv_neT c19 (show (9 : Int32).toInt = 9 by decide); have qc20 := lv_neT c20 (show (10 : Int32).toInt = 10 by decide); have qc21 := lv_neT c21 (show (11 : Int32).toInt = 11 by decide); have qc22 := lv_neT c22 (show (12 : Int32).toInt = 12 by decide); omega) (by decide) ?_
  refine g_bipush C dX11_countOf_144 (v := (-102)) (by decide) ?_
  exact g_iretR C hR hf dX11_countOf_146
abbrev rm_X11_count : Room := { frames := 5, cells := 0, slots := 0, locals := 110 }
set_option maxRecDepth 100000 in
set_option maxHeartbeats 4000000 in
theorem c_X11_count (l : Launch) (E : EV) {σ : ST} {p0 : Int32} {rr : Int32} (hf : f_X11_count σ p0 = some rr) : CT l E yX11_count cX11_count 2 (some .int) rm_X11_count [.ref (E.2.1 20), .int p0] σ (some (.int rr)) σ := by
  refine CT.of RX11 rfl (by decide) (Nat.le_of_ble_eq_true rfl) rfl rfl (fun Γ C hR => ?_)
  show GW Γ 2 E σ 0 [(0, .ref (E.2.1 20)), (1, .int p0)] []
  rw [f_X11_count] at hf
  refine g_aload_n C 0 dX11_count_0 rfl ?_
  refine g_iload_n C 1 dX11_count_1 rfl ?_
  obtain ⟨r2, h1, hf⟩ := o_bind hf
  refine g_callV C 20 (c_X11_countOf l E h1) cls_10 k_X11_323 ⟨rfl, rfl, Nat.le_of_ble_eq_true rfl, Nat.le_of_ble_eq_true rfl⟩ (by decide) rfl rfl (Nat.le_of_ble_eq_true rfl) dX11_count_2 _ rfl ?_
  exact g_iretR C hR hf dX11_count_5
abbrev rm_X11_say : Room := { frames := 0, cells := 0, slots := 0, locals := 0 }
set_option maxRecDepth 100000 in
set_option maxHeartbeats 4000000 in
theorem c_X11_say (l : Launch) (E : EV) {σ ss : ST} {p0 : Int64} (hf : f_X11_say p0 σ = some ss) : CT l E yX11_say cX11_say 3 none rm_X11_say [.ref (E.2.1 20), .long p0] σ none ss := by
  refine CT.of RX11 rfl (by decide) (Nat.le_of_ble_eq_true rfl) rfl rfl (fun Γ C hR => ?_)
  show GW Γ 3 E σ 0 [(0, .ref (E.2.1 20)), (1, .long p0)] []
  rw [f_X11_say] at hf
  refine g_aload_n C 0 dX11_say_0 rfl ?_
  refine g_ldc2 C dX11_say_1 (v := 31) kl_X11_326 ?_
  refine g_aload_n C 0 dX11_say_4 rfl ?_
  refine fg_X11_328_20 C dX11_say_5 ?_
  refine g_lmul C dX11_say_8 ?_
  refine g_lload_n C 1 dX11_say_9 rfl ?_
  refine g_ladd C dX11_say_10 ?_
  obtain ⟨σ1, hσ1, hf⟩ := o_let hf
  refine fp_X11_328_20 C dX11_say_11 hσ1 ?_
  exact g_vretW C hR hf dX11_say_14
abbrev rm_X11_sayTune : Room := { frames := 4, cells := 0, slots := 0, locals := 91 }
set_option maxRecDepth 100000 in
set_option maxHeartbeats 4000000 in
theorem t_X11_sayTune_B19 {Γ : CX} {l : Launch} {E : EV} {ss : ST} (k_2 : Int32 → Int32 → ST → Option (ST)) (C : FX Γ l cX11_sayTune 3 RX11 rm_X11_sayTune E) (hR : RT Γ none E none ss) (hk_2 : ∀ (v1 : Int32) (v2 : Int32) (σ : ST), k_2 v1 v2 σ = some ss → GW Γ 3 E σ 2 [(0, .ref (E.2.1 20)), (1, .int v1), (2, .int v2)] []) (v1 : Int32) (v2 : Int32) (σ : ST) (hf : f_X11_sayTune_B19 k_2 v1 v2 σ = some ss) : GW Γ 3 E σ 19 [(0, .ref (E.2.1 20)), (1, .int v1), (2, .int v2)] [] := by
  rw [f_X11_sayTune_B19] at hf
  refine g_aload_n C 0 dX11_sayTune_19 rfl ?_
  refine g_aload_n C 0 dX11_sayTune_20 rfl ?_
  refine g_iload_n C 1 dX11_sayTune_21 rfl ?_
  refine g_iload_n C 2 dX11_sayTune_22 rfl ?_
  obtain ⟨r4, h3, hf⟩ := o_bind hf
  refine g_callV C 20 (c_X11_tellTune l E h3) cls_10 k_X11_175 ⟨rfl, rfl, Nat.le_of_ble_eq_true rfl, Nat.le_of_ble_eq_true rfl⟩ (by decide) rfl rfl (Nat.le_of_ble_eq_true rfl) dX11_sayTune_23 _ rfl ?_
  refine g_i2l C dX11_sayTune_26 ?_
  obtain ⟨σ6, h5, hf⟩ := o_bind hf
  refine g_callV C 20 (c_X11_say l E h5) cls_10 k_X11_332 ⟨rfl, rfl, Nat.le_of_ble_eq_true rfl, Nat.le_of_ble_eq_true rfl⟩ (by decide) rfl rfl (Nat.le_of_ble_eq_true rfl) dX11_sayTune_27 _ rfl ?_
  obtain ⟨x7, hx7, hf⟩ := o_let hf
  refine g_iinc C 2 dX11_sayTune_30 rfl hx7 (by decide) [(2, .int x7), (0, .ref (E.2.1 20)), (1, .int v1)] rfl ?_
  refine g_goto (tgt := 2) C dX11_sayTune_33 (by decide) ?_
  exact g_lv [(0, .ref (E.2.1 20)), (1, .int v1), (2, .int x7)] [1, 2, 0] rfl (hk_2 v1 x7 σ6 hf)
set_option maxRecDepth 100000 in
set_option maxHeartbeats 4000000 in
theorem t_X11_sayTune_L2 {Γ : CX} {l : Launch} {E : EV} {ss : ST} (C : FX Γ l cX11_sayTune 3 RX11 rm_X11_sayTune E) (hR : RT Γ none E none ss) : ∀ (n : Nat) (v1 : Int32) (v2 : Int32) (σ : ST), f_X11_sayTune_L2 n v1 v2 σ = some ss → GW Γ 3 E σ 2 [(0, .ref (E.2.1 20)), (1, .int v1), (2, .int v2)] [] := by
  intro n
  induction n with
  | zero => intro v1 v2 σ hf; exact nomatch hf
  | succ n ih =>
    intro v1 v2 σ hf
    rw [f_X11_sayTune_L2] at hf
    refine g_iload_n C 2 dX11_sayTune_2 rfl ?_
    refine g_bipush C dX11_sayTune_3 (v := 18) (by decide) ?_
    refine g_icmp_ge (tgt := 36) C dX11_sayTune_5 (by decide) (fun c1 => ?_) (fun c1 => ?_)
    · rw [if_pos c1] at hf
      exact g_vretW C hR hf dX11_sayTune_36
    · rw [if_neg c1] at hf
      refine g_iload_n C 2 dX11_sayTune_8 rfl ?_
      refine g_iconst C dX11_sayTune_9 (v := 5) (by decide) ?_
      refine g_icmp_lt (tgt := 19) C dX11_sayTune_10 (by decide) (fun c2 => ?_) (fun c2 => ?_)
      · rw [if_pos c2] at hf
        exact t_X11_sayTune_B19 ((f_X11_sayTune_L2 n)) C hR ih v1 v2 σ hf
      · rw [if_neg c2] at hf
        refine g_iload_n C 2 dX11_sayTune_13 rfl ?_
        refine g_bipush C dX11_sayTune_14 (v := 9) (by decide) ?_
        refine g_icmp_le (tgt := 30) C dX11_sayTune_16 (by decide) (fun c8 => ?_) (fun c8 => ?_)
        · rw [if_pos c8] at hf
          obtain ⟨x9, hx9, hf⟩ := o_let hf
          refine g_iinc C 2 dX11_sayTune_30 rfl hx9 (by decide) [(2, .int x9), (0, .ref (E.2.1 20)), (1, .int v1)] rfl ?_
          refine g_goto (tgt := 2) C dX11_sayTune_33 (by decide) ?_
          exact g_lv [(0, .ref (E.2.1 20)), (1, .int v1), (2, .int x9)] [1, 2, 0] rfl (ih v1 x9 σ hf)
        · rw [if_neg c8] at hf
          exact t_X11_sayTune_B19 ((f_X11_sayTune_L2 n)) C hR ih v1 v2 σ hf
set_option maxRecDepth 100000 in
set_option maxHeartbeats 4000000 in
theorem c_X11_sayTune (l : Launch) (E : EV) {σ ss : ST} {p0 : Int32} (hf : f_X11_sayTune p0 σ = some ss) : CT l E yX11_sayTune cX11_sayTune 3 none rm_X11_sayTune [.ref (E.2.1 20), .int p0] σ none ss := by
  refine CT.of RX11 rfl (by decide) (Nat.le_of_ble_eq_true rfl) rfl rfl (fun Γ C hR => ?_)
  show GW Γ 3 E σ 0 [(0, .ref (E.2.1 20)), (1, .int p0)] []
  rw [f_X11_sayTune] at hf
  refine g_iconst C dX11_sayTune_0 (v := 0) (by decide) ?_
  refine g_istore_n C dX11_sayTune_1 (by decide) [(2, .int 0), (0, .ref (E.2.1 20)), (1, .int p0)] rfl ?_
  exact g_lv [(0, .ref (E.2.1 20)), (1, .int p0), (2, .int 0)] [1, 2, 0] rfl (t_X11_sayTune_L2 C hR fuel p0 0 σ hf)
abbrev rm_X11_digest : Room := { frames := 7, cells := 0, slots := 0, locals := 166 }
set_option maxRecDepth 100000 in
set_option maxHeartbeats 4000000 in
theorem t_X11_digest_L174 {Γ : CX} {l : Launch} {E : EV} {rr : Int64} {ss : ST} (C : FX Γ l cX11_digest 3 RX11 rm_X11_digest E) (hR : RT Γ (some .long) E (some (.long rr)) ss) : ∀ (n : Nat) (v1 : Int32) (σ : ST), f_X11_digest_L174 n v1 σ = some (rr, ss) → GW Γ 3 E σ 174 [(0, .ref (E.2.1 20)), (1, .int v1)] [] := by
  intro n
  induction n with
  | zero => intro v1 σ hf; exact nomatch hf
  | succ n ih =>
    intro v1 σ hf
    rw [f_X11_digest_L174] at hf
    refine g_iload_n C 1 dX11_digest_174 rfl ?_
    refine g_bipush C dX11_digest_175 (v := 13) (by decide) ?_
    refine g_icmp_ge (tgt := 196) C dX11_digest_177 (by decide) (fun c8 => ?_) (fun c8 => ?_)
    · rw [if_pos c8] at hf
      refine g_aload_n C 0 dX11_digest_196 rfl ?_
      refine fg_X11_328_20 C dX11_digest_197 ?_
      exact g_lretW C hR hf dX11_digest_200
    · rw [if_neg c8] at hf
      refine g_aload_n C 0 dX11_digest_180 rfl ?_
      refine g_aload_n C 0 dX11_digest_181 rfl ?_
      refine g_iload_n C 1 dX11_digest_182 rfl ?_
      obtain ⟨r10, h9, hf⟩ := o_bind hf
      refine g_callV C 20 (c_X11_countOf l E h9) cls_10 k_X11_323 ⟨rfl, rfl, Nat.le_of_ble_eq_true rfl, Nat.le_of_ble_eq_true rfl⟩ (by decide) rfl rfl (Nat.le_of_ble_eq_true rfl) dX11_digest_183 _ rfl ?_
      refine g_i2l C dX11_digest_186 ?_
      obtain ⟨σ12, h11, hf⟩ := o_bind hf
      refine g_callV C 20 (c_X11_say l E h11) cls_10 k_X11_332 ⟨rfl, rfl, Nat.le_of_ble_eq_true rfl, Nat.le_of_ble_eq_true rfl⟩ (by decide) rfl rfl (Nat.le_of_ble_eq_true rfl) dX11_digest_187 _ rfl ?_
      obtain ⟨x13, hx13, hf⟩ := o_let hf
      refine g_iinc C 1 dX11_digest_190 rfl hx13 (by decide) [(1, .int x13), (0, .ref (E.2.1 20))] rfl ?_
      refine g_goto (tgt := 174) C dX11_digest_193 (by decide) ?_
      exact g_lv [(0, .ref (E.2.1 20)), (1, .int x13)] [1, 0] rfl (ih x13 σ12 hf)
set_option maxRecDepth 100000 in
set_option maxHeartbeats 4000000 in
theorem t_X11_digest_B172 {Γ : CX} {l : Launch} {E : EV} {rr : Int64} {ss : ST} (C : FX Γ l cX11_digest 3 RX11 rm_X11_digest E) (hR : RT Γ (some .long) E (some (.long rr)) ss) (σ : ST) (hf : f_X11_digest_B172 σ = some (rr, ss)) : GW Γ 3 E σ 172 [(0, .ref (E.2.1 20))] [] := by
  rw [f_X11_digest_B172] at hf
  refine g_iconst C dX11_digest_172 (v := 0) (by decide) ?_
  refine g_istore_n C dX11_digest_173 (by decide) [(1, .int 0), (0, .ref (E.2.1 20))] rfl ?_
  exact g_lv [(0, .ref (E.2.1 20)), (1, .int 0)] [1, 0] rfl (t_X11_digest_L174 C hR fuel 0 σ hf)
set_option maxRecDepth 100000 in
set_option maxHeartbeats 4000000 in
theorem t_X11_digest_L147 {Γ : CX} {l : Launch} {E : EV} {rr : Int64} {ss : ST} (C : FX Γ l cX11_digest 3 RX11 rm_X11_digest E) (hR : RT Γ (some .long) E (some (.long rr)) ss) : ∀ (n : Nat) (v1 : Int32) (σ : ST), f_X11_digest_L147 n v1 σ = some (rr, ss) → GW Γ 3 E σ 147 [(0, .ref (E.2.1 20)), (1, .int v1)] [] := by
  intro n
  induction n with
  | zero => intro v1 σ hf; exact nomatch hf
  | succ n ih =>
    intro v1 σ hf
    rw [f_X11_digest_L147] at hf
    refine g_iload_n C 1 dX11_digest_147 rfl ?_
    refine g_aload_n C 0 dX11_digest_148 rfl ?_
    refine fg_X11_77_20 C dX11_digest_149 ?_
    refine g_icmp_ge (tgt := 172) C dX11_digest_152 (by decide) (fun c7 => ?_) (fun c7 => ?_)
    · rw [if_pos c7] at hf
      exact g_lv [(0, .ref (E.2.1 20))] [0] rfl (t_X11_digest_B172 C hR σ hf)
    · rw [if_neg c7] at hf
      refine g_aload_n C 0 dX11_digest_155 rfl ?_
      refine g_aload_n C 0 dX11_digest_156 rfl ?_
      refine fg_X11_7_20 C dX11_digest_157 ?_
      refine g_iload_n C 1 dX11_digest_160 rfl ?_
      obtain ⟨h14, hf⟩ := o_if hf
      refine g_ald C ar_21 dX11_digest_161 (k := v1.toNatClampNeg) rfl h14 ?_
      refine g_i2l C dX11_digest_162 ?_
      obtain ⟨σ16, h15, hf⟩ := o_bind hf
      refine g_callV C 20 (c_X11_say l E h15) cls_10 k_X11_332 ⟨rfl, rfl, Nat.le_of_ble_eq_true rfl, Nat.le_of_ble_eq_true rfl⟩ (by decide) rfl rfl (Nat.le_of_ble_eq_true rfl) dX11_digest_163 _ rfl ?_
      obtain ⟨x17, hx17, hf⟩ := o_let hf
      refine g_iinc C 1 dX11_digest_166 rfl hx17 (by decide) [(1, .int x17), (0, .ref (E.2.1 20))] rfl ?_
      refine g_goto (tgt := 147) C dX11_digest_169 (by decide) ?_
      exact g_lv [(0, .ref (E.2.1 20)), (1, .int x17)] [1, 0] rfl (ih x17 σ16 hf)
set_option maxRecDepth 100000 in
set_option maxHeartbeats 4000000 in
theorem t_X11_digest_B145 {Γ : CX} {l : Launch} {E : EV} {rr : Int64} {ss : ST} (C : FX Γ l cX11_digest 3 RX11 rm_X11_digest E) (hR : RT Γ (some .long) E (some (.long rr)) ss) (σ : ST) (hf : f_X11_digest_B145 σ = some (rr, ss)) : GW Γ 3 E σ 145 [(0, .ref (E.2.1 20))] [] := by
  rw [f_X11_digest_B145] at hf
  refine g_iconst C dX11_digest_145 (v := 0) (by decide) ?_
  refine g_istore_n C dX11_digest_146 (by decide) [(1, .int 0), (0, .ref (E.2.1 20))] rfl ?_
  exact g_lv [(0, .ref (E.2.1 20)), (1, .int 0)] [1, 0] rfl (t_X11_digest_L147 C hR fuel 0 σ hf)
set_option maxRecDepth 100000 in
set_option maxHeartbeats 4000000 in
theorem t_X11_digest_B112 {Γ : CX} {l : Launch} {E : EV} {rr : Int64} {ss : ST} (C : FX Γ l cX11_digest 3 RX11 rm_X11_digest E) (hR : RT Γ (some .long) E (some (.long rr)) ss) (σ : ST) (hf : f_X11_digest_B112 σ = some (rr, ss)) : GW Γ 3 E σ 112 [(0, .ref (E.2.1 20))] [] := by
  rw [f_X11_digest_B112] at hf
  refine g_aload_n C 0 dX11_digest_112 rfl ?_
  obtain ⟨r5, h4, hf⟩ := o_bind hf
  refine g_callV C 20 (c_X11_lacks l E h4) cls_10 k_X11_234 ⟨rfl, rfl, Nat.le_of_ble_eq_true rfl, Nat.le_of_ble_eq_true rfl⟩ (by decide) rfl rfl (Nat.le_of_ble_eq_true rfl) dX11_digest_113 _ rfl ?_
  refine g_if_ne (y := 0) (tgt := 145) C dX11_digest_116 (by decide) (fun c6 => ?_) (fun c6 => ?_)
  · rw [if_neg c6] at hf
    exact t_X11_digest_B145 C hR σ hf
  · rw [if_pos c6] at hf
    refine g_aload_n C 0 dX11_digest_119 rfl ?_
    obtain ⟨r19, h18, hf⟩ := o_bind hf
    refine g_callV C 20 (c_X11_areBoth l E h18) cls_10 k_X11_251 ⟨rfl, rfl, Nat.le_of_ble_eq_true rfl, Nat.le_of_ble_eq_true rfl⟩ (by decide) rfl rfl (Nat.le_of_ble_eq_true rfl) dX11_digest_120 _ rfl ?_
    refine g_if_eq (y := 0) (tgt := 145) C dX11_digest_123 (by decide) (fun c20 => ?_) (fun c20 => ?_)
    · rw [if_pos c20] at hf
      exact t_X11_digest_B145 C hR σ hf
    · rw [if_neg c20] at hf
      refine g_aload_n C 0 dX11_digest_126 rfl ?_
      refine g_aload_n C 0 dX11_digest_127 rfl ?_
      refine g_iconst C dX11_digest_128 (v := 2) (by decide) ?_
      obtain ⟨r23, σ22, h21, hf⟩ := o_bind2 hf
      refine g_callV C 20 (c_X11_becomeOf l E h21) cls_10 k_X11_269 ⟨rfl, rfl, Nat.le_of_ble_eq_true rfl, Nat.le_of_ble_eq_true rfl⟩ (by decide) rfl rfl (Nat.le_of_ble_eq_true rfl) dX11_digest_129 _ rfl ?_
      refine g_i2l C dX11_digest_132 ?_
      obtain ⟨σ25, h24, hf⟩ := o_bind hf
      refine g_callV C 20 (c_X11_say l E h24) cls_10 k_X11_332 ⟨rfl, rfl, Nat.le_of_ble_eq_true rfl, Nat.le_of_ble_eq_true rfl⟩ (by decide) rfl rfl (Nat.le_of_ble_eq_true rfl) dX11_digest_133 _ rfl ?_
      refine g_aload_n C 0 dX11_digest_136 rfl ?_
      refine g_aload_n C 0 dX11_digest_137 rfl ?_
      obtain ⟨r28, σ27, h26, hf⟩ := o_bind2 hf
      refine g_callV C 20 (c_X11_nearOf l E h26) cls_10 k_X11_276 ⟨rfl, rfl, Nat.le_of_ble_eq_true rfl, Nat.le_of_ble_eq_true rfl⟩ (by decide) rfl rfl (Nat.le_of_ble_eq_true rfl) dX11_digest_138 _ rfl ?_
      refine g_i2l C dX11_digest_141 ?_
      obtain ⟨σ30, h29, hf⟩ := o_bind hf
      refine g_callV C 20 (c_X11_say l E h29) cls_10 k_X11_332 ⟨rfl, rfl, Nat.le_of_ble_eq_true rfl, Nat.le_of_ble_eq_true rfl⟩ (by decide) rfl rfl (Nat.le_of_ble_eq_true rfl) dX11_digest_142 _ rfl ?_
      exact t_X11_digest_B145 C hR σ30 hf
set_option maxRecDepth 100000 in
set_option maxHeartbeats 4000000 in
theorem t_X11_digest_L88 {Γ : CX} {l : Launch} {E : EV} {rr : Int64} {ss : ST} (C : FX Γ l cX11_digest 3 RX11 rm_X11_digest E) (hR : RT Γ (some .long) E (some (.long rr)) ss) : ∀ (n : Nat) (v1 : Int32) (σ : ST), f_X11_digest_L88 n v1 σ = some (rr, ss) → GW Γ 3 E σ 88 [(0, .ref (E.2.1 20)), (1, .int v1)] [] := by
  intro n
  induction n with
  | zero => intro v1 σ hf; exact nomatch hf
  | succ n ih =>
    intro v1 σ hf
    rw [f_X11_digest_L88] at hf
    refine g_iload_n C 1 dX11_digest_88 rfl ?_
    refine g_iconst C dX11_digest_89 (v := 2) (by decide) ?_
    refine g_icmp_ge (tgt := 112) C dX11_digest_90 (by decide) (fun c3 => ?_) (fun c3 => ?_)
    · rw [if_pos c3] at hf
      exact g_lv [(0, .ref (E.2.1 20))] [0] rfl (t_X11_digest_B112 C hR σ hf)
    · rw [if_neg c3] at hf
      refine g_aload_n C 0 dX11_digest_93 rfl ?_
      refine g_iload_n C 1 dX11_digest_94 rfl ?_
      obtain ⟨r32, h31, hf⟩ := o_bind hf
      refine g_callV C 20 (c_X11_isTune l E h31) cls_10 k_X11_172 ⟨rfl, rfl, Nat.le_of_ble_eq_true rfl, Nat.le_of_ble_eq_true rfl⟩ (by decide) rfl rfl (Nat.le_of_ble_eq_true rfl) dX11_digest_95 _ rfl ?_
      refine g_if_eq (y := 0) (tgt := 106) C dX11_digest_98 (by decide) (fun c33 => ?_) (fun c33 => ?_)
      · rw [if_pos c33] at hf
        obtain ⟨x34, hx34, hf⟩ := o_let hf
        refine g_iinc C 1 dX11_digest_106 rfl hx34 (by decide) [(1, .int x34), (0, .ref (E.2.1 20))] rfl ?_
        refine g_goto (tgt := 88) C dX11_digest_109 (by decide) ?_
        exact g_lv [(0, .ref (E.2.1 20)), (1, .int x34)] [1, 0] rfl (ih x34 σ hf)
      · rw [if_neg c33] at hf
        refine g_aload_n C 0 dX11_digest_101 rfl ?_
        refine g_iload_n C 1 dX11_digest_102 rfl ?_
        obtain ⟨σ36, h35, hf⟩ := o_bind hf
        refine g_callV C 20 (c_X11_sayTune l E h35) cls_10 k_X11_338 ⟨rfl, rfl, Nat.le_of_ble_eq_true rfl, Nat.le_of_ble_eq_true rfl⟩ (by decide) rfl rfl (Nat.le_of_ble_eq_true rfl) dX11_digest_103 _ rfl ?_
        obtain ⟨x37, hx37, hf⟩ := o_let hf
        refine g_iinc C 1 dX11_digest_106 rfl hx37 (by decide) [(1, .int x37), (0, .ref (E.2.1 20))] rfl ?_
        refine g_goto (tgt := 88) C dX11_digest_109 (by decide) ?_
        exact g_lv [(0, .ref (E.2.1 20)), (1, .int x37)] [1, 0] rfl (ih x37 σ36 hf)
set_option maxRecDepth 100000 in
set_option maxHeartbeats 4000000 in
theorem t_X11_digest_B86 {Γ : CX} {l : Launch} {E : EV} {rr : Int64} {ss : ST} (C : FX Γ l cX11_digest 3 RX11 rm_X11_digest E) (hR : RT Γ (some .long) E (some (.long rr)) ss) (σ : ST) (hf : f_X11_digest_B86 σ = some (rr, ss)) : GW Γ 3 E σ 86 [(0, .ref (E.2.1 20))] [] := by
  rw [f_X11_digest_B86] at hf
  refine g_iconst C dX11_digest_86 (v := 0) (by decide) ?_
  refine g_istore_n C dX11_digest_87 (by decide) [(1, .int 0), (0, .ref (E.2.1 20))] rfl ?_
  exact g_lv [(0, .ref (E.2.1 20)), (1, .int 0)] [1, 0] rfl (t_X11_digest_L88 C hR fuel 0 σ hf)
set_option maxRecDepth 100000 in
set_option maxHeartbeats 4000000 in
theorem t_X11_digest_L44 {Γ : CX} {l : Launch} {E : EV} {rr : Int64} {ss : ST} (k_9 : Int32 → ST → Option (Int64 × ST)) (C : FX Γ l cX11_digest 3 RX11 rm_X11_digest E) (hR : RT Γ (some .long) E (some (.long rr)) ss) (hk_9 : ∀ (v1 : Int32) (σ : ST), k_9 v1 σ = some (rr, ss) → GW Γ 3 E σ 9 [(0, .ref (E.2.1 20)), (1, .int v1)] []) : ∀ (n : Nat) (v1 : Int32) (v2 : Int32) (σ : ST), f_X11_digest_L44 k_9 n v1 v2 σ = some (rr, ss) → GW Γ 3 E σ 44 [(0, .ref (E.2.1 20)), (1, .int v1), (2, .int v2)] [] := by
  intro n
  induction n with
  | zero => intro v1 v2 σ hf; exact nomatch hf
  | succ n ih =>
    intro v1 v2 σ hf
    rw [f_X11_digest_L44] at hf
    refine g_iload_n C 2 dX11_digest_44 rfl ?_
    refine g_bipush C dX11_digest_45 (v := 12) (by decide) ?_
    refine g_icmp_ge (tgt := 80) C dX11_digest_47 (by decide) (fun c39 => ?_) (fun c39 => ?_)
    · rw [if_pos c39] at hf
      obtain ⟨x40, hx40, hf⟩ := o_let hf
      refine g_iinc C 1 dX11_digest_80 rfl hx40 (by decide) [(1, .int x40), (0, .ref (E.2.1 20)), (2, .int v2)] rfl ?_
      refine g_goto (tgt := 9) C dX11_digest_83 (by decide) ?_
      exact g_lv [(0, .ref (E.2.1 20)), (1, .int x40)] [1, 0] rfl (hk_9 x40 σ hf)
    · rw [if_neg c39] at hf
      refine g_aload_n C 0 dX11_digest_50 rfl ?_
      refine g_aload_n C 0 dX11_digest_51 rfl ?_
      refine g_aload_n C 0 dX11_digest_52 rfl ?_
      refine fg_X11_13_20 C dX11_digest_53 ?_
      refine g_iconst C dX11_digest_56 (v := 3) (by decide) ?_
      refine g_iload_n C 1 dX11_digest_57 rfl ?_
      refine g_imul C dX11_digest_58 ?_
      obtain ⟨h41, hf⟩ := o_if hf
      refine g_ald C ar_22 dX11_digest_59 (k := (3 * v1).toNatClampNeg) rfl h41 ?_
      refine g_aload_n C 0 dX11_digest_60 rfl ?_
      refine fg_X11_16_20 C dX11_digest_61 ?_
      refine g_iload_n C 1 dX11_digest_64 rfl ?_
      obtain ⟨h42, hf⟩ := o_if hf
      refine g_ald C ar_23 dX11_digest_65 (k := v1.toNatClampNeg) rfl h42 ?_
      refine g_iload_n C 2 dX11_digest_66 rfl ?_
      obtain ⟨r45, σ44, h43, hf⟩ := o_bind2 hf
      refine g_callV C 20 (c_X11_comesOut l E h43) cls_10 k_X11_191 ⟨rfl, rfl, Nat.le_of_ble_eq_true rfl, Nat.le_of_ble_eq_true rfl⟩ (by decide) rfl rfl (Nat.le_of_ble_eq_true rfl) dX11_digest_67 _ rfl ?_
      refine g_i2l C dX11_digest_70 ?_
      obtain ⟨σ47, h46, hf⟩ := o_bind hf
      refine g_callV C 20 (c_X11_say l E h46) cls_10 k_X11_332 ⟨rfl, rfl, Nat.le_of_ble_eq_true rfl, Nat.le_of_ble_eq_true rfl⟩ (by decide) rfl rfl (Nat.le_of_ble_eq_true rfl) dX11_digest_71 _ rfl ?_
      obtain ⟨x48, hx48, hf⟩ := o_let hf
      refine g_iinc C 2 dX11_digest_74 rfl hx48 (by decide) [(2, .int x48), (0, .ref (E.2.1 20)), (1, .int v1)] rfl ?_
      refine g_goto (tgt := 44) C dX11_digest_77 (by decide) ?_
      exact g_lv [(0, .ref (E.2.1 20)), (1, .int v1), (2, .int x48)] [1, 2, 0] rfl (ih v1 x48 σ47 hf)
set_option maxRecDepth 100000 in
set_option maxHeartbeats 4000000 in
theorem t_X11_digest_B42 {Γ : CX} {l : Launch} {E : EV} {rr : Int64} {ss : ST} (k_9 : Int32 → ST → Option (Int64 × ST)) (C : FX Γ l cX11_digest 3 RX11 rm_X11_digest E) (hR : RT Γ (some .long) E (some (.long rr)) ss) (hk_9 : ∀ (v1 : Int32) (σ : ST), k_9 v1 σ = some (rr, ss) → GW Γ 3 E σ 9 [(0, .ref (E.2.1 20)), (1, .int v1)] []) (v1 : Int32) (σ : ST) (hf : f_X11_digest_B42 k_9 v1 σ = some (rr, ss)) : GW Γ 3 E σ 42 [(0, .ref (E.2.1 20)), (1, .int v1)] [] := by
  rw [f_X11_digest_B42] at hf
  refine g_iconst C dX11_digest_42 (v := 0) (by decide) ?_
  refine g_istore_n C dX11_digest_43 (by decide) [(2, .int 0), (0, .ref (E.2.1 20)), (1, .int v1)] rfl ?_
  exact g_lv [(0, .ref (E.2.1 20)), (1, .int v1), (2, .int 0)] [1, 2, 0] rfl (t_X11_digest_L44 k_9 C hR hk_9 fuel v1 0 σ hf)
set_option maxRecDepth 100000 in
set_option maxHeartbeats 4000000 in
theorem t_X11_digest_L19 {Γ : CX} {l : Launch} {E : EV} {rr : Int64} {ss : ST} (k_9 : Int32 → ST → Option (Int64 × ST)) (C : FX Γ l cX11_digest 3 RX11 rm_X11_digest E) (hR : RT Γ (some .long) E (some (.long rr)) ss) (hk_9 : ∀ (v1 : Int32) (σ : ST), k_9 v1 σ = some (rr, ss) → GW Γ 3 E σ 9 [(0, .ref (E.2.1 20)), (1, .int v1)] []) : ∀ (n : Nat) (v1 : Int32) (v2 : Int32) (σ : ST), f_X11_digest_L19 k_9 n v1 v2 σ = some (rr, ss) → GW Γ 3 E σ 19 [(0, .ref (E.2.1 20)), (1, .int v1), (2, .int v2)] [] := by
  intro n
  induction n with
  | zero => intro v1 v2 σ hf; exact nomatch hf
  | succ n ih =>
    intro v1 v2 σ hf
    rw [f_X11_digest_L19] at hf
    refine g_iload_n C 2 dX11_digest_19 rfl ?_
    refine g_bipush C dX11_digest_20 (v := 9) (by decide) ?_
    refine g_icmp_ge (tgt := 42) C dX11_digest_22 (by decide) (fun c38 => ?_) (fun c38 => ?_)
    · rw [if_pos c38] at hf
      exact g_lv [(0, .ref (E.2.1 20)), (1, .int v1)] [0, 1] rfl (t_X11_digest_B42 k_9 C hR hk_9 v1 σ hf)
    · rw [if_neg c38] at hf
      refine g_aload_n C 0 dX11_digest_25 rfl ?_
      refine g_aload_n C 0 dX11_digest_26 rfl ?_
      refine g_iload_n C 1 dX11_digest_27 rfl ?_
      refine g_iload_n C 2 dX11_digest_28 rfl ?_
      obtain ⟨r51, σ50, h49, hf⟩ := o_bind2 hf
      refine g_callV C 20 (c_X11_tellStreet l E h49) cls_10 k_X11_219 ⟨rfl, rfl, Nat.le_of_ble_eq_true rfl, Nat.le_of_ble_eq_true rfl⟩ (by decide) rfl rfl (Nat.le_of_ble_eq_true rfl) dX11_digest_29 _ rfl ?_
      refine g_i2l C dX11_digest_32 ?_
      obtain ⟨σ53, h52, hf⟩ := o_bind hf
      refine g_callV C 20 (c_X11_say l E h52) cls_10 k_X11_332 ⟨rfl, rfl, Nat.le_of_ble_eq_true rfl, Nat.le_of_ble_eq_true rfl⟩ (by decide) rfl rfl (Nat.le_of_ble_eq_true rfl) dX11_digest_33 _ rfl ?_
      obtain ⟨x54, hx54, hf⟩ := o_let hf
      refine g_iinc C 2 dX11_digest_36 rfl hx54 (by decide) [(2, .int x54), (0, .ref (E.2.1 20)), (1, .int v1)] rfl ?_
      refine g_goto (tgt := 19) C dX11_digest_39 (by decide) ?_
      exact g_lv [(0, .ref (E.2.1 20)), (1, .int v1), (2, .int x54)] [1, 2, 0] rfl (ih v1 x54 σ53 hf)
set_option maxRecDepth 100000 in
set_option maxHeartbeats 4000000 in
theorem t_X11_digest_L9 {Γ : CX} {l : Launch} {E : EV} {rr : Int64} {ss : ST} (C : FX Γ l cX11_digest 3 RX11 rm_X11_digest E) (hR : RT Γ (some .long) E (some (.long rr)) ss) : ∀ (n : Nat) (v1 : Int32) (σ : ST), f_X11_digest_L9 n v1 σ = some (rr, ss) → GW Γ 3 E σ 9 [(0, .ref (E.2.1 20)), (1, .int v1)] [] := by
  intro n
  induction n with
  | zero => intro v1 σ hf; exact nomatch hf
  | succ n ih =>
    intro v1 σ hf
    rw [f_X11_digest_L9] at hf
    refine g_iload_n C 1 dX11_digest_9 rfl ?_
    refine g_aload_n C 0 dX11_digest_10 rfl ?_
    refine fg_X11_108_20 C dX11_digest_11 ?_
    refine g_icmp_ge (tgt := 86) C dX11_digest_14 (by decide) (fun c2 => ?_) (fun c2 => ?_)
    · rw [if_pos c2] at hf
      exact g_lv [(0, .ref (E.2.1 20))] [0] rfl (t_X11_digest_B86 C hR σ hf)
    · rw [if_neg c2] at hf
      refine g_iconst C dX11_digest_17 (v := 0) (by decide) ?_
      refine g_istore_n C dX11_digest_18 (by decide) [(2, .int 0), (0, .ref (E.2.1 20)), (1, .int v1)] rfl ?_
      exact g_lv [(0, .ref (E.2.1 20)), (1, .int v1), (2, .int 0)] [1, 2, 0] rfl (t_X11_digest_L19 ((f_X11_digest_L9 n)) C hR ih fuel v1 0 σ hf)
set_option maxRecDepth 100000 in
set_option maxHeartbeats 4000000 in
theorem c_X11_digest (l : Launch) (E : EV) {σ ss : ST} {rr : Int64} (hf : f_X11_digest σ = some (rr, ss)) : CT l E yX11_digest cX11_digest 3 (some .long) rm_X11_digest [.ref (E.2.1 20)] σ (some (.long rr)) ss := by
  refine CT.of RX11 rfl (by decide) (Nat.le_of_ble_eq_true rfl) rfl rfl (fun Γ C hR => ?_)
  show GW Γ 3 E σ 0 [(0, .ref (E.2.1 20))] []
  rw [f_X11_digest] at hf
  refine g_aload_n C 0 dX11_digest_0 rfl ?_
  refine g_ldc2 C dX11_digest_1 (v := 1187) kl_X11_336 ?_
  obtain ⟨σ1, hσ1, hf⟩ := o_let hf
  refine fp_X11_328_20 C dX11_digest_4 hσ1 ?_
  refine g_iconst C dX11_digest_7 (v := 0) (by decide) ?_
  refine g_istore_n C dX11_digest_8 (by decide) [(1, .int 0), (0, .ref (E.2.1 20))] rfl ?_
  exact g_lv [(0, .ref (E.2.1 20)), (1, .int 0)] [1, 0] rfl (t_X11_digest_L9 C hR fuel 0 σ1 hf)
