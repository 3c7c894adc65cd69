/-! WANDERINGS -/
theorem SE.x3 (σ : ST) (k : Nat) (x : Int32) : SE σ (uI σ 3 k x) := ⟨fun o h3 _ _ _ _ _ _ _ _ _ => va_up_ne _ _ h3, fun _ _ _ => rfl, fun _ _ _ _ => rfl, rfl⟩
theorem SE.l3 (σ : ST) (k : Nat) (x : Int64) : SE σ (uL σ 3 k x) := ⟨fun _ _ _ _ _ _ _ _ _ _ _ => rfl, fun _ _ _ => rfl, fun o h3 _ _ => va_up_ne _ _ h3, rfl⟩
def cnR (on ot : Nat → Nat) (cr : Nat) : Nat → Nat → Nat
  | 0, _ => 0
  | m + 1, j => (if EN on ot j cr then 1 else 0) + cnR on ot cr m (j + 1)
theorem cn_itr (on ot : Nat → Nat) (cr : Nat) : ∀ m j a, itr (fun i a => if EN on ot i cr then a + 1 else a) j m a = a + cnR on ot cr m j
  | 0, _, _ => rfl
  | m + 1, j, a => by
    rw [itr, cn_itr on ot cr m (j + 1), cnR]
    by_cases q : EN on ot j cr
    · rw [if_pos q, if_pos q]; omega
    · rw [if_neg q, if_neg q]; omega
theorem cnE_R (on ot : Nat → Nat) (z cr : Nat) : cnE on ot z cr = cnR on ot cr z 0 := by
  rw [cnE, cn_itr, Nat.zero_add]
theorem cnR_le (on ot : Nat → Nat) (cr : Nat) : ∀ m j, cnR on ot cr m j ≤ m
  | 0, _ => Nat.le_refl 0
  | m + 1, j => by
    have := cnR_le on ot cr m (j + 1)
    rw [cnR]
    split <;> omega
def nthE (on ot : Nat → Nat) (cr : Nat) : Nat → Nat → Nat → Nat
  | 0, j, _ => j
  | m + 1, j, q => if EN on ot j cr then (if q = 0 then j else nthE on ot cr m (j + 1) (q - 1)) else nthE on ot cr m (j + 1) q
theorem nthE_ok (on ot : Nat → Nat) (cr : Nat) : ∀ m j q, q < cnR on ot cr m j → nthE on ot cr m j q < j + m ∧ EN on ot (nthE on ot cr m j q) cr
  | 0, _, _, h => absurd h (Nat.not_lt_zero _)
  | m + 1, j, q, h => by
    rw [cnR] at h
    rw [nthE]
    by_cases e : EN on ot j cr
    · rw [if_pos e] at h ⊢
      by_cases q0 : q = 0
      · rw [if_pos q0]; exact ⟨by omega, e⟩
      · rw [if_neg q0]
        have := nthE_ok on ot cr m (j + 1) (q - 1) (by omega)
        exact ⟨by omega, this.2⟩
    · rw [if_neg e] at h ⊢
      have := nthE_ok on ot cr m (j + 1) q (by omega)
      exact ⟨by omega, this.2⟩
theorem number_X {σ : ST} {z c b : Nat} {kd on ot tn : Nat → Nat} (v : VW σ z c kd on ot tn b) {cr : Nat} (hc : cr < 2 ^ 31) : ∀ m j p r fu, j + m = z → m < fu → p + r < 1000 → r < cnR on ot cr m j → f_X1_numberAt_L5 σ fu (nI cr) (nI (p + r)) (nI p) (nI j) = some (nI (nthE on ot cr m j r)) := by
  have hz := v.z8
  intro m
  induction m with
  | zero =>
    intro j p r fu h1 h2 h3 h4
    exact absurd h4 (Nat.not_lt_zero _)
  | succ m ih =>
    intro j p r fu h1 h2 h3 h4
    obtain ⟨f, rfl⟩ : ∃ f, fu = f + 1 := ⟨fu - 1, by omega⟩
    obtain ⟨ad, s, ef, -⟩ := pass_V v (g := fun _ => 0) (n := 0) (i := j) (cr := cr) (by omega) hc ⟨by decide, fun k hk => absurd hk (Nat.not_lt_zero k)⟩
    rw [cnR] at h4
    rw [f_X1_numberAt_L5, v.xz, if_neg (nI_ge (by omega) (by omega)), ef, o_bs, nthE]
    by_cases e : EN on ot j cr
    · rw [if_pos e] at h4
      rw [if_pos e, if_pos e]
      show (if nI p = nI (p + r) then some (nI j) else (some (nI p + 1)).bind fun x7 => (some (nI j + 1)).bind fun x8 => f_X1_numberAt_L5 σ f (nI cr) (nI (p + r)) x7 x8) = _
      rw [q_if (nI_eq (by omega) (by omega))]
      by_cases q0 : r = 0
      · rw [if_pos (by omega), if_pos q0]
      · rw [if_neg (by omega), if_neg q0, o_bs, o_bs, nI_1, nI_1]
        have := ih (j + 1) (p + 1) (r - 1) f (by omega) (by omega) (by omega) (by omega)
        rw [show p + 1 + (r - 1) = p + r by omega] at this
        exact this
    · rw [if_neg e] at h4
      rw [if_neg e, if_neg e]
      show ((some (nI j + 1)).bind fun x5 => f_X1_numberAt_L5 σ f (nI cr) (nI (p + r)) (nI p) x5) = _
      rw [o_bs, nI_1]
      exact ih (j + 1) p r f (by omega) (by omega) h3 (by omega)
theorem number_M {σ : ST} {z c b : Nat} {kd on ot tn : Nat → Nat} (v : VW σ z c kd on ot tn b) {cr : Nat} (hc : cr < 2 ^ 31) : ∀ m j r fu, j + m = z → m < fu → r < cnR on ot cr m j → f_X11_endsNo_L5 σ fu (nI cr) (nI j) (nI r) = some (nI (nthE on ot cr m j r)) := by
  have hz := v.z8
  intro m
  induction m with
  | zero =>
    intro j r fu h1 h2 h4
    exact absurd h4 (Nat.not_lt_zero _)
  | succ m ih =>
    intro j r fu h1 h2 h4
    obtain ⟨f, rfl⟩ : ∃ f, fu = f + 1 := ⟨fu - 1, by omega⟩
    have hl := cnR_le on ot cr (m + 1) j
    have hr8 : r ≤ 8 := by omega
    rw [cnR] at h4
    rw [f_X11_endsNo_L5, endsAt_M v (by omega) hc, o_bs, nthE, f_X11_endsNo_B19, endsAt_M v (by omega) hc, o_bs, o_bs]
    by_cases e : EN on ot j cr
    · rw [if_pos e] at h4
      rw [if_pos e, if_pos e, if_neg (show ¬ (1 : Int32) = 0 by decide), if_neg (show ¬ (1 : Int32) = 0 by decide), q_if (many0 hr8)]
      by_cases q0 : r = 0
      · rw [if_pos q0, if_pos q0]
      · have e1 : nI r - 1 = nI (r - 1) := pk_sub (b := 1) (by omega)
        rw [if_neg q0, if_neg q0, o_bs, o_bs, e1, nI_1]
        exact ih (j + 1) (r - 1) f (by omega) (by omega) (by omega)
    · rw [if_neg e] at h4
      rw [if_neg e, if_neg e, if_pos (show (0 : Int32) = 0 from rfl), if_pos (show (0 : Int32) = 0 from rfl), o_bs, o_bs, Int32.sub_zero, nI_1]
      exact ih (j + 1) r f (by omega) (by omega) (by omega)
def nx (s : Nat) : Nat := (1103515245 * s + 12345) % 2147483648
theorem nx_lt (s : Nat) : nx s < 2 ^ 31 := Nat.mod_lt _ (by decide)
theorem nx_X {s : Nat} (h : s < 2 ^ 31) : j_lrem (1103515245 * lN s + 12345) 2147483648 = lN (nx s) := by
  have e : (1103515245 : Int64) * lN s + 12345 = lN (1103515245 * s + 12345) := by
    rw [show (1103515245 : Int64) = lN 1103515245 from rfl, show (12345 : Int64) = lN 12345 from rfl, lN_mul, lN_add]
  rw [e]
  exact pk_lRem (a := 1103515245 * s + 12345) (b := 2147483648) (by omega) (by decide) (by decide)
theorem nx_M {s : Nat} (h : s < 2 ^ 31) : (((1103515245 : Int64) * (nI s).toInt64 + 12345) &&& 2147483647).toInt32 = nI (nx s) := by
  have e : (1103515245 : Int64) * lN s + 12345 = lN (1103515245 * s + 12345) := by
    rw [show (1103515245 : Int64) = lN 1103515245 from rfl, show (12345 : Int64) = lN 12345 from rfl, lN_mul, lN_add]
  rw [nI_l h, e]
  have e2 : lN (1103515245 * s + 12345) &&& 2147483647 = lN ((1103515245 * s + 12345) % 2 ^ 31) := wb_mask (k := 31) (by omega) (by decide)
  rw [e2, lN_i]
  rfl
theorem ix_X {s n : Nat} (h : s < 2 ^ 31) (h0 : 0 < n) (hn : n ≤ 8) : (j_lrem (lN s / 65536) (nI n).toInt64).toInt32 = nI (s / 65536 % n) := by
  have e : lN s / 65536 = lN (s / 65536) := pk_lDiv (a := s) (b := 65536) (by omega) (by decide) (by decide)
  have hd : s / 65536 ≤ s := Nat.div_le_self _ _
  rw [e, nI_l (by omega), show j_lrem (lN (s / 65536)) (lN n) = lN (s / 65536 % n) from pk_lRem (by omega) h0 (by omega), lN_i]
theorem ix_M {s n : Nat} (h : s < 2 ^ 31) (h0 : 0 < n) (hn : n ≤ 8) : j_rem (nI s / 65536) (nI n) = nI (s / 65536 % n) := by
  have e : nI s / 65536 = nI (s / 65536) := pk_div (a := s) (d := 65536) h (by decide) (by decide)
  have hd : s / 65536 ≤ s := Nat.div_le_self _ _
  rw [e]
  exact q_rem (by omega) h0 (by omega)
/-- one wandering: tune, corner, seed -/
def wI (on ot : Nat → Nat) (z cr s : Nat) : Nat := nthE on ot cr z 0 (nx s / 65536 % cnE on ot z cr)
def wMv (kd on ot tn : Nat → Nat) (b n z : Nat) (a : (Nat → Nat) × Nat × Nat) : (Nat → Nat) × Nat × Nat := if cnE on ot z a.2.1 = 0 then a else if OP kd b a.1 n (wI on ot z a.2.1 a.2.2) then (tr (kd (wI on ot z a.2.1 a.2.2)) (tn (wI on ot z a.2.1 a.2.2)) a.1 n, on (wI on ot z a.2.1 a.2.2) + ot (wI on ot z a.2.1 a.2.2) - a.2.1, nx a.2.2) else (a.1, a.2.1, nx a.2.2)
def wSt (kd on ot tn : Nat → Nat) (b n : Nat) (g1 : Nat → Nat) (n1 z : Nat) (_ : Nat) (a : ((Nat → Nat) × Nat × Nat) × Nat) : ((Nat → Nat) × Nat × Nat) × Nat := (wMv kd on ot tn b n z a.1, if enc (wMv kd on ot tn b n z a.1).1 n = enc g1 n1 then a.2 + 1 else a.2)
def wOk (n : Nat) (a : (Nat → Nat) × Nat × Nat) : Prop := TN a.1 n ∧ a.2.1 < 5 ∧ a.2.2 < 2 ^ 31
theorem wI_ok {on ot : Nat → Nat} {z cr s : Nat} (h : cnE on ot z cr ≠ 0) : wI on ot z cr s < z ∧ EN on ot (wI on ot z cr s) cr ∧ nx s / 65536 % cnE on ot z cr < cnR on ot cr z 0 := by
  have hl : nx s / 65536 % cnE on ot z cr < cnR on ot cr z 0 := by
    rw [cnE_R] at h ⊢
    exact Nat.mod_lt _ (by omega)
  have := nthE_ok on ot cr z 0 _ hl
  exact ⟨by have := this.1; unfold wI; omega, this.2, hl⟩
theorem wMv_ok {σ : ST} {z c b n : Nat} {kd on ot tn : Nat → Nat} (v : VW σ z c kd on ot tn b) {a : (Nat → Nat) × Nat × Nat} (h : wOk n a) : wOk n (wMv kd on ot tn b n z a) := by
  obtain ⟨h1, h2, h3⟩ := h
  unfold wMv
  by_cases q : cnE on ot z a.2.1 = 0
  · rw [if_pos q]; exact ⟨h1, h2, h3⟩
  · rw [if_neg q]
    obtain ⟨w1, w2, -⟩ := wI_ok (s := a.2.2) q
    have hw := v.row w1
    split
    · refine ⟨tr_TN h1, ?_, nx_lt _⟩
      show on (wI on ot z a.2.1 a.2.2) + ot (wI on ot z a.2.1 a.2.2) - a.2.1 < 5
      omega
    · exact ⟨h1, h2, nx_lt _⟩
theorem draw_X {τ : ST} {z c b cr s : Nat} {kd on ot tn : Nat → Nat} (v : VW τ z c kd on ot tn b) (hc : cr < 5) (hs : s < 2 ^ 31) (h8 : τ.2.1 3 8 = lN s) : f_X9_drawStreet (nI cr) τ = if cnE on ot z cr = 0 then some (-1, τ) else some (nI (wI on ot z cr s), uL τ 3 8 (lN (nx s))) := by
  have hz := v.z8
  have hl := cnE_le on ot z cr
  rw [f_X9_drawStreet, countAt_V v (by omega), o_bs]
  by_cases q : cnE on ot z cr = 0
  · rw [if_pos q, q, if_neg (by decide)]
  · obtain ⟨w1, w2, w3⟩ := wI_ok (s := s) q
    rw [if_neg q, if_pos (show (0 : Int32) < nI (cnE on ot z cr) from nI_lt (a := 0) (by omega) (by omega)), h8, nx_X hs, o_bs, if_pos (by
      rw [nI_l (by omega)]
      exact fun w => q ((pk_lEQ (b := 0) (by omega) (by decide)).mp w)), show (uL τ 3 8 (lN (nx s))).2.1 3 8 = lN (nx s) by rw [uL_s, va_up_self], ix_X (nx_lt s) (by omega) (by omega), f_X1_numberAt]
    have hR := cnR_le on ot cr z 0
    have v4 : VW (uL τ 3 8 (lN (nx s))) z c kd on ot tn b := v
    have e := number_X v4 (cr := cr) (by omega) z 0 0 (nx s / 65536 % cnE on ot z cr) fuel (by omega) (by rw [fuel_eq]; omega) (by omega) w3
    rw [Nat.zero_add] at e
    rw [show (0 : Int32) = nI 0 from rfl, e, o_bs]
    rfl
theorem pass_m1 (σ : ST) (cr : Int32) (x : Int64) : f_X9_passage σ cr (-1) x = some none := by
  rw [f_X9_passage, f_X1_from, f_X1_at, if_pos (by decide), o_bs]
  rfl
theorem wander_X {σ : ST} {z c b n0 n1 N : Nat} {kd on ot tn g0 g1 : Nat → Nat} (v : VW σ z c kd on ot tn b) (tu : TU σ g0 n0 g1 n1) (hN : N ≤ 60) : ∀ m j (a : ((Nat → Nat) × Nat × Nat) × Nat) fu (τ : ST), j + m = N → m < fu → wOk n0 a.1 → SE σ τ → τ.1 3 7 = nI a.1.2.1 → τ.2.1 3 8 = lN a.1.2.2 → τ.1 3 6 = nI a.2 → ∃ τ', SE σ τ' ∧ f_X9_wanderOff_L33 fu (nI N) (enc a.1.1 n0) (nI j) τ = some τ' ∧ τ'.1 3 7 = nI (itr (wSt kd on ot tn b n0 g1 n1 z) j m a).1.2.1 ∧ τ'.2.1 3 8 = lN (itr (wSt kd on ot tn b n0 g1 n1 z) j m a).1.2.2 ∧ τ'.1 3 6 = nI (itr (wSt kd on ot tn b n0 g1 n1 z) j m a).2 := by
  have hz := v.z8
  intro m
  induction m with
  | zero =>
    intro j a fu τ h1 h2 h3 h4 h5 h6 h7
    obtain ⟨f, rfl⟩ : ∃ f, fu = f + 1 := ⟨fu - 1, by omega⟩
    exact ⟨τ, h4, by rw [f_X9_wanderOff_L33, if_pos (nI_le (by omega) (by omega))], h5, h6, h7⟩
  | succ m ih =>
    intro j a fu τ h1 h2 h3 h4 h5 h6 h7
    obtain ⟨f, rfl⟩ : ∃ f, fu = f + 1 := ⟨fu - 1, by omega⟩
    have v' := h4.vw v
    have hok := wMv_ok v h3
    obtain ⟨t0, c5, s31⟩ := h3
    -- what stands once the tune is carried on
    have fin : ∀ (υ : ST), SE σ υ → υ.1 3 7 = nI (wMv kd on ot tn b n0 z a.1).2.1 → υ.2.1 3 8 = lN (wMv kd on ot tn b n0 z a.1).2.2 → υ.1 3 6 = nI a.2 → ∃ τ', SE σ τ' ∧ f_X9_wanderOff_B103 (f_X9_wanderOff_L33 f) (nI N) (enc (wMv kd on ot tn b n0 z a.1).1 n0) (nI j) υ = some τ' ∧ τ'.1 3 7 = nI (itr (wSt kd on ot tn b n0 g1 n1 z) j (m + 1) a).1.2.1 ∧ τ'.2.1 3 8 = lN (itr (wSt kd on ot tn b n0 g1 n1 z) j (m + 1) a).1.2.2 ∧ τ'.1 3 6 = nI (itr (wSt kd on ot tn b n0 g1 n1 z) j (m + 1) a).2 := by
      intro υ k1 k2 k3 k4
      obtain ⟨-, -, -, -, -, -, -, l1⟩ := k1.tu tu
      rw [f_X9_wanderOff_B103, l1, itr]
      have ew : wSt kd on ot tn b n0 g1 n1 z j a = (wMv kd on ot tn b n0 z a.1, if enc (wMv kd on ot tn b n0 z a.1).1 n0 = enc g1 n1 then a.2 + 1 else a.2) := rfl
      by_cases q : enc (wMv kd on ot tn b n0 z a.1).1 n0 = enc g1 n1
      · rw [if_pos q] at ew
        rw [if_pos q, k4, nI_1, o_bs, o_bs, nI_1, ew]
        exact ih (j + 1) (wMv kd on ot tn b n0 z a.1, a.2 + 1) f (uI υ 3 6 (nI (a.2 + 1))) (by omega) (by omega) hok (k1.tr (SE.x3 υ 6 _)) (by
          rw [uI_s, va_up_ne _ _ (by decide)]; exact k2) k3 (by rw [uI_s, va_up_self])
      · rw [if_neg q] at ew
        rw [if_neg q, o_bs, nI_1, ew]
        exact ih (j + 1) (wMv kd on ot tn b n0 z a.1, a.2) f υ (by omega) (by omega) hok k1 k2 k3 k4
    rw [f_X9_wanderOff_L33, if_neg (nI_ge (by omega) (by omega)), if_neg (show ¬ (60 : Int32) ≤ nI j from nI_ge (a := j) (b := 60) (by omega) (by decide)), h5, draw_X v' c5 s31 h6]
    by_cases q : cnE on ot z a.1.2.1 = 0
    · have em : wMv kd on ot tn b n0 z a.1 = a.1 := by rw [wMv, if_pos q]
      rw [if_pos q, o_b2s, pass_m1, o_bs]
      rw [em] at fin
      exact fin τ h4 h5 h6 h7
    · obtain ⟨w1, w2, -⟩ := wI_ok (s := a.1.2.2) q
      obtain ⟨i, hi⟩ : ∃ i, i = wI on ot z a.1.2.1 a.1.2.2 := ⟨_, rfl⟩
      rw [← hi] at w1 w2
      have em : wMv kd on ot tn b n0 z a.1 = if OP kd b a.1.1 n0 i then (tr (kd i) (tn i) a.1.1 n0, on i + ot i - a.1.2.1, nx a.1.2.2) else (a.1.1, a.1.2.1, nx a.1.2.2) := by rw [wMv, if_neg q, ← hi]
      have sl : SE τ (uL τ 3 8 (lN (nx a.1.2.2))) := SE.l3 τ 8 _
      have v2 := sl.vw v'
      obtain ⟨ad, s, -, ep⟩ := pass_V v2 (g := a.1.1) (n := n0) (cr := a.1.2.1) w1 (by omega) t0
      have hw := v2.row w1
      rw [if_neg q, o_b2s, ← hi, show (uL τ 3 8 (lN (nx a.1.2.2))).1 3 7 = τ.1 3 7 from rfl, h5, ep, o_bs]
      by_cases q2 : OP kd b a.1.1 n0 i
      · rw [if_pos q2] at em
        rw [em] at fin
        rw [if_pos ⟨w2, q2⟩]
        show ∃ τ', SE σ τ' ∧ ((f_X3_tonic (uL τ 3 8 (lN (nx a.1.2.2))) (nI i)).bind fun r18 => (if pv (uL τ 3 8 (lN (nx a.1.2.2))) ad then (f_X7_carry ad (uL τ 3 8 (lN (nx a.1.2.2))) (enc a.1.1 n0) r18).bind fun r20 => (f_X7_across ad (uL τ 3 8 (lN (nx a.1.2.2))) (nI a.1.2.1)).bind fun r23 => (some (uI (uL τ 3 8 (lN (nx a.1.2.2))) 3 7 r23)).bind fun σ24 => f_X9_wanderOff_B103 (f_X9_wanderOff_L33 f) (nI N) r20 (nI j) σ24 else none)) = some τ' ∧ _
        rw [tonic_V v2 w1, o_bs, if_pos s.1, carry_X t0 (v2.2.1 i w1).1 hw.1 s.2.1, o_bs, across_V v2 w1 s w2, o_bs, o_bs]
        exact fin (uI (uL τ 3 8 (lN (nx a.1.2.2))) 3 7 (nI (on i + ot i - a.1.2.1))) ((h4.tr sl).tr (SE.x3 _ 7 _)) (by rw [uI_s, va_up_self]) (by rw [uI_2, uL_s, va_up_self]) (by
          rw [uI_s, va_up_ne _ _ (by decide)]; exact h7)
      · rw [if_neg q2] at em
        rw [em] at fin
        rw [if_neg (fun w => q2 w.2)]
        exact fin (uL τ 3 8 (lN (nx a.1.2.2))) (h4.tr sl) h5 (by rw [uL_s, va_up_self]) h7
theorem draw_M {τ : ST} {n s : Nat} (hs : s < 2 ^ 31) (h : τ.1 20 26 = nI s) (h0 : 0 < n) (hn : n ≤ 8) : f_X11_draw (nI n) τ = some (nI (nx s / 65536 % n), uI τ 20 26 (nI (nx s))) := by
  rw [f_X11_draw, h, nx_M hs, o_bs, if_pos (nI_ne0 h0 (by omega)), show (uI τ 20 26 (nI (nx s))).1 20 26 = nI (nx s) by rw [uI_s, va_up_self], ix_M (nx_lt s) h0 hn]
theorem wander_M {σ : ST} {z c b n0 n1 N : Nat} {kd on ot tn g0 g1 : Nat → Nat} (v : VW σ z c kd on ot tn b) (tu : TU σ g0 n0 g1 n1) (hN : N ≤ 60) (hn : n0 ≠ 0) (w : Int32) : ∀ m j (a : ((Nat → Nat) × Nat × Nat) × Nat) fu (τ : ST), j + m = N → m < fu → wOk n0 a.1 → SM σ τ → RW τ 28 a.1.1 n0 → τ.1 20 26 = nI a.1.2.2 → ∃ τ', SM σ τ' ∧ f_X11_wander_L76 fu (nI N) w (nI a.1.2.1) (nI a.2) (nI j) τ = f_X11_wander_B188 w (nI (itr (wSt kd on ot tn b n0 g1 n1 z) j m a).1.2.1) (nI (itr (wSt kd on ot tn b n0 g1 n1 z) j m a).2) τ' ∧ τ'.1 20 26 = nI (itr (wSt kd on ot tn b n0 g1 n1 z) j m a).1.2.2 := by
  have hz := v.z8
  intro m
  induction m with
  | zero =>
    intro j a fu τ h1 h2 h3 h4 h5 h6
    obtain ⟨f, rfl⟩ : ∃ f, fu = f + 1 := ⟨fu - 1, by omega⟩
    exact ⟨τ, h4, by rw [f_X11_wander_L76, if_pos (nI_le (by omega) (by omega))]; rfl, h6⟩
  | succ m ih =>
    intro j a fu τ h1 h2 h3 h4 h5 h6
    obtain ⟨f, rfl⟩ : ∃ f, fu = f + 1 := ⟨fu - 1, by omega⟩
    have v' := h4.vw v
    have hok := wMv_ok v h3
    obtain ⟨t0, c5, s31⟩ := h3
    have hl := cnE_le on ot z a.1.2.1
    have fin : ∀ (υ : ST), SM σ υ → RW υ 28 (wMv kd on ot tn b n0 z a.1).1 n0 → υ.1 20 26 = nI (wMv kd on ot tn b n0 z a.1).2.2 → ∃ τ', SM σ τ' ∧ f_X11_wander_B150 (f_X11_wander_L76 f) (nI N) w (nI (wMv kd on ot tn b n0 z a.1).2.1) (nI a.2) (nI j) υ = f_X11_wander_B188 w (nI (itr (wSt kd on ot tn b n0 g1 n1 z) j (m + 1) a).1.2.1) (nI (itr (wSt kd on ot tn b n0 g1 n1 z) j (m + 1) a).2) τ' ∧ τ'.1 20 26 = nI (itr (wSt kd on ot tn b n0 g1 n1 z) j (m + 1) a).1.2.2 := by
      intro υ k1 k2 k3
      obtain ⟨-, t1, r0, r1, e0, e1, -, -⟩ := k1.tu tu
      obtain ⟨y, y1, y2⟩ := isAs_M hok.1 t1 k2 r1
      rw [f_X11_wander_B150, e0, e1, y1, o_bs, o_bs, o_bs, o_bs, itr, nI_1]
      have ew : wSt kd on ot tn b n0 g1 n1 z j a = (wMv kd on ot tn b n0 z a.1, if enc (wMv kd on ot tn b n0 z a.1).1 n0 = enc g1 n1 then a.2 + 1 else a.2) := rfl
      rcases y2 with ⟨a1, a2⟩ | ⟨a1, a2⟩
      · rw [if_pos a2] at ew
        rw [a1, if_neg (by decide), nI_1, ew]
        exact ih (j + 1) (wMv kd on ot tn b n0 z a.1, a.2 + 1) f υ (by omega) (by omega) hok k1 k2 k3
      · rw [if_neg a2] at ew
        rw [a1, if_pos rfl, Int32.add_zero, ew]
        exact ih (j + 1) (wMv kd on ot tn b n0 z a.1, a.2) f υ (by omega) (by omega) hok k1 k2 k3
    rw [f_X11_wander_L76, if_neg (nI_ge (by omega) (by omega)), endsMany_M v' (by omega), o_bs, q_if (many0 (by omega))]
    by_cases q : cnE on ot z a.1.2.1 = 0
    · have em : wMv kd on ot tn b n0 z a.1 = a.1 := by rw [wMv, if_pos q]
      rw [if_pos q]
      rw [em] at fin
      exact fin τ h4 h5 h6
    · obtain ⟨w1, w2, w3⟩ := wI_ok (s := a.1.2.2) q
      obtain ⟨i, hi⟩ : ∃ i, i = wI on ot z a.1.2.1 a.1.2.2 := ⟨_, rfl⟩
      rw [← hi] at w1 w2
      have em : wMv kd on ot tn b n0 z a.1 = if OP kd b a.1.1 n0 i then (tr (kd i) (tn i) a.1.1 n0, on i + ot i - a.1.2.1, nx a.1.2.2) else (a.1.1, a.1.2.1, nx a.1.2.2) := by rw [wMv, if_neg q, ← hi]
      obtain ⟨τ1, hτ1⟩ : ∃ τ1, τ1 = uI τ 20 26 (nI (nx a.1.2.2)) := ⟨_, rfl⟩
      have s1 : SM τ τ1 := by rw [hτ1]; exact SM.u20 τ 26 _ (Or.inr rfl)
      have v1 := s1.vw v'
      have r28 : RW τ1 28 a.1.1 n0 := by rw [hτ1]; exact h5
      have e26 : τ1.1 20 26 = nI (nx a.1.2.2) := by rw [hτ1, uI_s, va_up_self]
      obtain ⟨-, -, -, -, e0, -, -, -⟩ := (h4.tr s1).tu tu
      rw [if_neg q, draw_M s31 h6 (by omega) (by omega), o_b2s, ← hτ1, f_X11_endsNo, show (0 : Int32) = nI 0 from rfl, number_M v1 (cr := a.1.2.1) (by omega) z 0 _ fuel (by omega) (by rw [fuel_eq]; omega) w3, o_bs]
      rw [show nthE on ot a.1.2.1 z 0 (nx a.1.2.2 / 65536 % cnE on ot z a.1.2.1) = i from hi.symm, e0, isOpen_M v1 w1 t0 r28, o_bs]
      by_cases q2 : OP kd b a.1.1 n0 i
      · rw [if_pos q2] at em
        rw [em] at fin
        obtain ⟨τ2, hτ2⟩ : ∃ τ2, τ2 = uA τ1 28 (mx (τ1.1 28) (tr (kd i) (tn i) a.1.1 n0) n0) := ⟨_, rfl⟩
        have s2 : SM τ1 τ2 := by rw [hτ2]; exact SM.uA τ1 28 _ (by decide)
        have v2 := s2.vw v1
        rw [if_pos q2, if_neg (by decide), goStreet_M v1 w1 t0 (by omega) r28, o_bs, ← hτ2, otherEnd_M v2 w1 w2, o_bs]
        exact fin τ2 ((h4.tr s1).tr s2) (by rw [hτ2]; exact mx_RW) (by rw [hτ2]; exact e26)
      · rw [if_neg q2] at em
        rw [em] at fin
        rw [if_neg q2, if_pos (show (0 : Int32) = nI 0 from rfl)]
        exact fin τ1 (h4.tr s1) r28 e26
theorem sp_wander {t : Nat} {σ : ST} (h : Inv t σ) (p q w : Int32) : SP20 (Inv (t + 1)) σ p q w := by
  obtain ⟨z, cc, kd, on, ot, tn, nb, g0, n0, g1, n1, cr, m, v, tu, hc, sg, -⟩ := inv_all h
  obtain ⟨l1, l2⟩ := lacks_V v
  obtain ⟨b1, b2⟩ := both_V tu
  have ein := in_M p (lo := 1) (hi := 60) 1 60 (by decide) (by decide)
  have i1 : (p < 1) ↔ p.toInt < 1 := by rw [Int32.lt_iff_toInt_lt]; exact Iff.rfl
  have i2 : (60 < p) ↔ 60 < p.toInt := by rw [Int32.lt_iff_toInt_lt]; exact Iff.rfl
  by_cases qp : 1 ≤ p.toInt ∧ p.toInt ≤ 60
  · rw [if_pos qp] at ein
    have np1 : ¬ p < 1 := fun z => by have := i1.mp z; omega
    have np2 : ¬ 60 < p := fun z => by have := i2.mp z; omega
    by_cases qq : q < 0
    · exact ⟨-102, σ, by rw [f_X10_wander, if_neg np1, if_neg np2, if_pos qq], σ, by rw [f_X11_wander, ein, o_bs, if_neg (by decide), if_pos qq], inv_mono t σ h⟩
    · obtain ⟨s, s1, rfl⟩ := nI_of qq
      rcases in0_M (x := w) (hi := 2) (n := 3) (by decide) (by decide) with ⟨wn, w1, rfl, w3⟩ | ⟨w1, w3⟩
      · have nw1 : ¬ nI wn < 0 := nI_pos (by omega)
        have nw2 : nI wn ≤ 2 := nI_le (a := wn) (b := 2) (by omega) (by decide)
        by_cases q0 : z = 0
        · rw [if_pos q0] at l1 l2
          exact ⟨-103, σ, by rw [f_X10_wander, if_neg np1, if_neg np2, if_neg qq, if_neg nw1, if_pos nw2, l2]; rfl, σ, by rw [f_X11_wander, ein, o_bs, if_neg (by decide), if_neg qq, w3, o_bs, if_neg (by decide), l1]; rfl, inv_mono t σ h⟩
        · rw [if_neg q0] at l1 l2
          by_cases qt : n0 = 0 ∨ n1 = 0
          · rw [if_pos qt] at b1 b2
            exact ⟨-103, σ, by rw [f_X10_wander, if_neg np1, if_neg np2, if_neg qq, if_neg nw1, if_pos nw2, l2, o_bs, if_pos rfl, b2]; rfl, σ, by rw [f_X11_wander, ein, o_bs, if_neg (by decide), if_neg qq, w3, o_bs, if_neg (by decide), l1, o_bs, if_pos rfl, b1]; rfl, inv_mono t σ h⟩
          · rw [if_neg qt] at b1 b2
            obtain ⟨N, hN, hp⟩ : ∃ N, N ≤ 60 ∧ p = nI N := nI_of2 (M := 60) (by decide) (fun z => by have := neg_toInt z; omega) (Int32.not_lt.mp np2)
            subst hp
            obtain ⟨t0, t1, r0, r1, e0, e1, lo0, lo1⟩ := tu
            have tu : TU σ g0 n0 g1 n1 := ⟨t0, t1, r0, r1, e0, e1, lo0, lo1⟩
            have h8 := t0.1
            obtain ⟨σa, hσa⟩ : ∃ σa, σa = uL (uI (uI σ 3 6 0) 3 7 (nI cr)) 3 8 (lN s) := ⟨_, rfl⟩
            have sa : SE σ σa := by rw [hσa]; exact ((SE.x3 σ 6 0).tr (SE.x3 _ 7 _)).tr (SE.l3 _ 8 _)
            obtain ⟨τ, k1, k2, k3, k4, k5⟩ := wander_X v tu hN N 0 ((g0, cr, s), 0) fuel σa (by omega) (by rw [fuel_eq]; omega) ⟨t0, hc.1, s1⟩ sa (by rw [hσa]; rfl) (by rw [hσa]; rfl) (by rw [hσa]; rfl)
            obtain ⟨W, hW⟩ : ∃ W, W = itr (wSt kd on ot tn nb n0 g1 n1 z) 0 N ((g0, cr, s), 0) := ⟨_, rfl⟩
            rw [← hW] at k3 k4 k5
            have vτ := k1.vw v
            have tuτ := k1.tu tu
            obtain ⟨-, -, r0', -, -, -, -, -⟩ := k1.tu tu
            have hcτ := k1.cr hc
            have l1' := (lacks_V vτ).1
            have b1' := (both_V tuτ).1
            rw [if_neg q0] at l1'
            rw [if_neg qt] at b1'
            obtain ⟨τa, hτa⟩ : ∃ τa, τa = uA (uI τ 20 26 (nI s)) 28 (fun k => if k < 8 then (uI τ 20 26 (nI s)).1 25 k else (uI τ 20 26 (nI s)).1 28 k) := ⟨_, rfl⟩
            have sb : SM τ τa := by rw [hτa]; exact (SM.u20 τ 26 _ (Or.inr rfl)).tr (SM.uA _ 28 _ (by decide))
            obtain ⟨τb, j1, j2, j3⟩ := wander_M vτ tuτ hN (fun z => qt (Or.inl z)) (nI wn) N 0 ((g0, cr, s), 0) fuel τa (by omega) (by rw [fuel_eq]; omega) ⟨t0, hc.1, s1⟩ sb (fun k hk => by
              rw [hτa, uA_1, if_pos (by omega)]; exact r0' k hk) (by rw [hτa]; rfl)
            rw [← hW] at j2 j3
            have eX : f_X9_wanderOff (nI N) (nI s) σ = some τ := by
              rw [f_X9_wanderOff, o_bs, o_bs, show (uI σ 3 6 0).1 6 7 = σ.1 6 7 from rfl, hc.2.2.1, o_bs, nI_l s1, o_bs, ← hσa, lo0]
              exact k2
            have eM : f_X11_wander (nI N) (nI s) (nI wn) τ = f_X11_wander_B188 (nI wn) (nI W.1.2.1) (nI W.2) τb := by
              rw [f_X11_wander, ein, o_bs, if_neg (by decide), if_neg qq, w3, o_bs, if_neg (by decide), l1', o_bs, if_pos rfl, b1', o_bs, if_neg (by decide), o_bs, show (uI τ 20 26 (nI s)).1 20 4 = τ.1 20 4 from rfl, hcτ.2.2.2, o_bs, copy_M (by decide) (by decide) (by decide), o_bs, ← hτa]
              exact j2
            have hI : Inv (t + 1) τb := inv_mono t τb (j1.inv (k1.inv h))
            have eX2 : ∀ r, (if nI wn = 0 then some (τ.1 3 6, τ) else if nI wn = 1 then some (τ.1 3 7, τ) else some ((τ.2.1 3 8).toInt32, τ)) = some (r, τ) → f_X10_wander (nI N) (nI s) (nI wn) σ = some (r, τ) := fun r e => by
              rw [f_X10_wander, if_neg np1, if_neg np2, if_neg qq, if_neg nw1, if_pos nw2, l2, o_bs, if_pos rfl, b2, o_bs, if_pos rfl, eX, o_bs]
              exact e
            rw [f_X11_wander_B188] at eM
            rw [k3, k4, k5, lN_i] at eX2
            rw [j3] at eM
            by_cases z0 : nI wn = 0
            · exact ⟨nI W.2, τ, eX2 _ (by rw [if_pos z0]), τb, by rw [eM, if_pos z0], hI⟩
            · by_cases z1 : nI wn = 1
              · exact ⟨nI W.1.2.1, τ, eX2 _ (by rw [if_neg z0, if_pos z1]), τb, by rw [eM, if_neg z0, if_pos z1], hI⟩
              · exact ⟨nI W.1.2.2, τ, eX2 _ (by rw [if_neg z0, if_neg z1]), τb, by rw [eM, if_neg z0, if_neg z1], hI⟩
      · refine ⟨-102, σ, ?_, σ, by rw [f_X11_wander, ein, o_bs, if_neg (by decide), if_neg qq, w3]; rfl, inv_mono t σ h⟩
        rw [f_X10_wander, if_neg np1, if_neg np2, if_neg qq]
        rcases w1 with w1 | w1
        · rw [if_pos w1]
        · by_cases w2 : w < 0
          · rw [if_pos w2]
          · rw [if_neg w2, if_neg (fun z => absurd (Int32.le_trans w1 z) (by decide))]
  · rw [if_neg qp] at ein
    refine ⟨-102, σ, ?_, σ, by rw [f_X11_wander, ein]; rfl, inv_mono t σ h⟩
    rw [f_X10_wander]
    by_cases w1 : p < 1
    · rw [if_pos w1]
    · rw [if_neg w1, if_pos (i2.mpr (by have := mt i1.mpr w1; omega))]
