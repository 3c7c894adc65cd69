/-! tune() -/
def PL (σ : ST) (pn : Nat) (l : Nat → Nat) : Prop := pn ≤ 44 ∧ σ.1 1 1 = nI pn ∧ σ.1 20 1 = nI pn ∧ ∀ p, p < pn → 1 ≤ l p ∧ l p ≤ 126 ∧ σ.1 2 p = nI (l p) ∧ σ.1 21 p = nI (l p)
theorem pl_of {σ : ST} {pn : Nat} (h : PG pn (σ.1 1 1) (σ.1 20 1) (σ.1 2) (σ.1 21)) : PL σ pn (fun p => (σ.1 2 p).toNatClampNeg) := by
  obtain ⟨p1, p2, p3, p4, p5⟩ := h
  refine ⟨p1, p2, p3, fun p hp => ?_⟩
  obtain ⟨c, c1, c2, c3⟩ := p5 p hp
  show 1 ≤ (σ.1 2 p).toNatClampNeg ∧ (σ.1 2 p).toNatClampNeg ≤ 126 ∧ σ.1 2 p = nI (σ.1 2 p).toNatClampNeg ∧ σ.1 21 p = nI (σ.1 2 p).toNatClampNeg
  rw [← p4 p (by omega), c3, q_cl (by omega)]
  exact ⟨c1, c2, rfl, rfl⟩
abbrev isn (c : Nat) : Prop := 97 ≤ c ∧ c ≤ 108
theorem at_P {σ : ST} {pn : Nat} {l : Nat → Nat} (h : PL σ pn l) {p : Nat} (hp : p < pn) : f_X4_at σ (nI p) = some (nI (l p)) := by
  obtain ⟨h1, h2, h3, h4⟩ := h
  rw [f_X4_at, if_neg (nI_pos (by omega)), h2, if_neg (nI_ge hp (by omega)), if_neg (show ¬ (44 : Int32) ≤ nI p from nI_ge (a := p) (b := 44) (by omega) (by decide)), if_pos (by rw [q_in (by omega)]; omega), q_cl (by omega), (h4 p hp).2.2.1]
theorem note_tab : ∀ c, c < 127 → ((some (nI c - 97)).bind fun x3 => (f_X10_isNote x3).bind fun r5 => (if r5 = 0 then some (-1) else some x3)) = some (if isn c then nI (c - 97) else -1) := by decide +kernel
theorem noteAt_P {σ : ST} {pn : Nat} {l : Nat → Nat} (h : PL σ pn l) {p : Nat} (hp : p < pn) : f_X4_noteAt σ (nI p) = some (if isn (l p) then nI (l p - 97) else -1) := by
  rw [f_X4_noteAt, at_P h hp, o_bs]
  exact note_tab _ (by have := (h.2.2.2 p hp).2.1; omega)
theorem in97_tab : ∀ c, c < 127 → f_X11_in (nI c).toInt64 97 108 = some (if isn c then 1 else 0) := by decide +kernel
/-- all letters are notes -/
abbrev alln (l : Nat → Nat) (n : Nat) : Prop := ∀ k, k < n → isn (l k)
theorem asTune_L {σ : ST} {pn : Nat} {l : Nat → Nat} (h : PL σ pn l) (h8 : pn ≤ 8) : ∀ m j fu, j + m = pn → m < fu → alln l j → f_X4_asTune_L23 σ fu (enc (fun k => l k - 97) j) (nI j) = some (if alln l pn then enc (fun k => l k - 97) pn else 0) := by
  intro m
  induction m with
  | zero =>
    intro j fu h1 h2 h3
    obtain ⟨f, rfl⟩ : ∃ f, fu = f + 1 := ⟨fu - 1, by omega⟩
    have : j = pn := by omega
    subst this
    rw [f_X4_asTune_L23, h.2.1, if_pos (nI_le (Nat.le_refl j) (by omega)), if_pos h3]
  | succ m ih =>
    intro j fu h1 h2 h3
    obtain ⟨f, rfl⟩ : ∃ f, fu = f + 1 := ⟨fu - 1, by omega⟩
    have hj : j < pn := by omega
    rw [f_X4_asTune_L23, h.2.1, if_neg (nI_ge hj (by omega)), noteAt_P h hj, o_bs]
    by_cases q : isn (l j)
    · have hT : TN (fun k => l k - 97) j := ⟨by omega, fun k hk => by have := h3 k hk; show l k - 97 < 12; omega⟩
      rw [if_pos q, if_neg (by rw [q_m1 (by omega)]; exact not_false), with_end hT (by omega) (by omega), o_bs, o_bs, nI_1, show va_up (fun k => l k - 97) j (l j - 97) = fun k => l k - 97 from va_up_id (fun k => l k - 97) j]
      exact ih (j + 1) f (by omega) (by omega) (fun k hk => by
        by_cases q2 : k = j
        · subst q2; exact q
        · exact h3 k (by omega))
    · rw [if_neg q, if_pos rfl, if_neg (fun z => q (z j hj))]
theorem asTune_P {σ : ST} {pn : Nat} {l : Nat → Nat} (h : PL σ pn l) : f_X4_asTune σ = some (if 1 ≤ pn ∧ pn ≤ 8 ∧ alln l pn then enc (fun k => l k - 97) pn else 0) := by
  have h44 := h.1
  rw [f_X4_asTune, h.2.1, q_if (show nI pn < 1 ↔ pn < 1 from nI_ltI (b := 1) (by omega) (by decide)), q_if (show nI pn ≤ 8 ↔ pn ≤ 8 from nI_leI (b := 8) (by omega) (by decide))]
  by_cases q1 : pn < 1
  · rw [if_pos q1, if_neg (fun z => by omega)]
  · rw [if_neg q1]
    by_cases q2 : pn ≤ 8
    · rw [if_pos q2]
      have := asTune_L h q2 pn 0 fuel (by omega) (by rw [fuel_eq]; omega) (fun k hk => absurd hk (Nat.not_lt_zero k))
      refine Eq.trans this ?_
      by_cases q3 : alln l pn
      · rw [if_pos q3, if_pos ⟨by omega, q2, q3⟩]
      · rw [if_neg q3, if_neg (fun z => q3 z.2.2)]
    · rw [if_neg q2, if_neg (fun z => q2 z.2.1)]
theorem isTT_0 {σ : ST} {pn : Nat} (hp : pn ≤ 44) (h3 : σ.1 20 1 = nI pn) : f_X11_isTuneText_L15 σ fuel 0 0 = some 0 := by
  refine loopJ (fun fu j => f_X11_isTuneText_L15 σ fu 0 (nI j)) pn _ (fun f j hj => ?_) (fun f => ?_) pn 0 fuel (by omega) (by rw [fuel_eq]; omega)
  · show f_X11_isTuneText_L15 σ (f + 1) 0 (nI j) = _
    rw [f_X11_isTuneText_L15, h3, if_neg (nI_ge hj (by omega)), if_pos rfl, o_bs, o_bs, nI_1]
  · show f_X11_isTuneText_L15 σ (f + 1) 0 (nI pn) = _
    rw [f_X11_isTuneText_L15, h3, if_pos (nI_le (Nat.le_refl pn) (by omega)), if_pos (by decide)]
theorem isTT_P {σ : ST} {pn : Nat} {l : Nat → Nat} (h : PL σ pn l) : f_X11_isTuneText σ = some (if 1 ≤ pn ∧ pn ≤ 8 ∧ alln l pn then 1 else 0) := by
  have h44 := h.1
  rw [f_X11_isTuneText, h.2.2.1, in_M (nI pn) 1 8 (by decide) (by decide), o_bs, nI_toInt (by omega)]
  by_cases q : 1 ≤ pn ∧ pn ≤ 8
  · rw [if_pos (by omega)]
    have e := loopJ (fun fu j => f_X11_isTuneText_L15 σ fu (if alln l j then 1 else 0) (nI j)) pn (some (if 1 ≤ pn ∧ pn ≤ 8 ∧ alln l pn then 1 else 0)) (fun f j hj => by
      show f_X11_isTuneText_L15 σ (f + 1) (if alln l j then 1 else 0) (nI j) = f_X11_isTuneText_L15 σ f (if alln l (j + 1) then 1 else 0) (nI (j + 1))
      rw [f_X11_isTuneText_L15, h.2.2.1, if_neg (nI_ge hj (by omega)), if_pos (show inB (nI j) 44 by rw [q_in (by omega)]; omega), q_cl (by omega), (h.2.2.2 j hj).2.2.2, in97_tab _ (by have := (h.2.2.2 j hj).2.1; omega)]
      by_cases q2 : alln l j
      · rw [if_pos q2, if_neg (by decide), o_bs]
        by_cases q3 : isn (l j)
        · rw [if_pos q3, if_neg (by decide), o_bs, o_bs, nI_1, if_pos (fun k hk => by
            by_cases q4 : k = j
            · subst q4; exact q3
            · exact q2 k (by omega))]
        · rw [if_neg q3, if_pos rfl, o_bs, o_bs, nI_1, if_neg (fun z => q3 (z j (by omega)))]
      · rw [if_neg q2, if_pos rfl, o_bs, o_bs, nI_1, if_neg (fun z => q2 (fun k hk => z k (by omega)))]) (fun f => by
      show f_X11_isTuneText_L15 σ (f + 1) (if alln l pn then 1 else 0) (nI pn) = _
      rw [f_X11_isTuneText_L15, h.2.2.1, if_pos (nI_le (Nat.le_refl pn) (by omega))]
      by_cases q2 : alln l pn
      · rw [if_pos q2, if_pos (by decide), if_pos ⟨q.1, q.2, q2⟩]
      · rw [if_neg q2, if_pos (by decide), if_neg (fun z => q2 z.2.2)]) pn 0 fuel (by omega) (by rw [fuel_eq]; omega)
    have e0 : (if alln l 0 then (1 : Int32) else 0) = 1 := if_pos (fun k hk => absurd hk (Nat.not_lt_zero k))
    simp only [e0] at e
    exact e
  · rw [if_neg (fun z => q ⟨by omega, by omega⟩), isTT_0 h44 h.2.2.1, if_neg (fun z => q ⟨z.1, z.2.1⟩)]
theorem sub97 {c : Nat} (h : isn c) : nI c - 97 = nI (c - 97) := pk_sub (b := 97) h.1
theorem tune_M {σ : ST} {pn w : Nat} {T : Nat → Nat} (hw : w < 2) (h1 : 1 ≤ pn) (h8 : pn ≤ 8) (hl : ∀ p, p < pn → σ.1 21 p - 97 = nI (T p)) : f_X11_tune_L30 fuel (nI w) (nI pn) 0 σ = some (nI pn, uI (uI (uA σ (25 + w) (mx (σ.1 (25 + w)) T pn)) 20 (13 + w) (nI pn)) 20 1 0) := by
  have e0 : σ = uA σ (25 + w) (mx (σ.1 (25 + w)) T 0) := (uA_self σ (25 + w) _ (fun k => by rw [mx, if_neg (by omega)])).symm
  have key := loopJ (fun fu j => f_X11_tune_L30 fu (nI w) (nI pn) (nI j) (uA σ (25 + w) (mx (σ.1 (25 + w)) T j))) pn (some (nI pn, uI (uI (uA σ (25 + w) (mx (σ.1 (25 + w)) T pn)) 20 (13 + w) (nI pn)) 20 1 0)) (fun f j hj => ?_) (fun f => ?_) pn 0 fuel (by omega) (by rw [fuel_eq]; omega)
  · rw [← e0] at key; exact key
  · have i44 : inB (nI j) 44 := by rw [q_in (by omega)]; omega
    have i8 : inB (nI j) 8 := by rw [q_in (by omega)]; omega
    rcases (show w = 0 ∨ w = 1 by omega) with rfl | rfl
    · show f_X11_tune_L30 (f + 1) (nI 0) (nI pn) (nI j) (uA σ 25 (mx (σ.1 25) T j)) = f_X11_tune_L30 f (nI 0) (nI pn) (nI (j + 1)) (uA σ 25 (mx (σ.1 25) T (j + 1)))
      rw [f_X11_tune_L30, if_neg (nI_ge hj (by omega)), if_pos (by decide), if_pos i44, if_pos i8, q_cl (by omega), uA_n _ _ _ (show 21 ≠ 25 by decide), hl j hj, uA_uI, mx_up, o_bs, o_bs, nI_1]
    · show f_X11_tune_L30 (f + 1) (nI 1) (nI pn) (nI j) (uA σ 26 (mx (σ.1 26) T j)) = f_X11_tune_L30 f (nI 1) (nI pn) (nI (j + 1)) (uA σ 26 (mx (σ.1 26) T (j + 1)))
      rw [f_X11_tune_L30, if_neg (nI_ge hj (by omega)), if_neg (by decide), if_pos i44, if_pos i8, q_cl (by omega), uA_n _ _ _ (show 21 ≠ 26 by decide), hl j hj, uA_uI, mx_up, o_bs, o_bs, nI_1]
  · show f_X11_tune_L30 (f + 1) (nI w) (nI pn) (nI pn) (uA σ (25 + w) (mx (σ.1 (25 + w)) T pn)) = _
    rw [f_X11_tune_L30, if_pos (nI_le (Nat.le_refl pn) (by omega)), f_X11_tune_B78]
    rcases (show w = 0 ∨ w = 1 by omega) with rfl | rfl
    · rw [if_pos (by decide), o_bs, o_bs]
    · rw [if_neg (by decide), o_bs, o_bs]
theorem sp_tune {t : Nat} {σ : ST} (h : Inv t σ) (a b c : Int32) : SP4 (Inv (t + 1)) σ a b c := by
  have hI := h
  obtain ⟨pn, z, cc, kd, on, ot, rd, wy, h1, h2, h3, h4, h5, h6⟩ := h
  have pl := pl_of h1
  have h44 := h1.1
  obtain ⟨n1, n2, n3, n4, n5, n6⟩ := h3
  rcases which_split a with ⟨w, w1, rfl, w3⟩ | ⟨a1, a2, a3⟩
  · have eX : f_X10_tune (nI w) σ = f_X10_tune_B12 (nI w) σ := by
      rw [f_X10_tune]
      rcases (show w = 0 ∨ w = 1 by omega) with rfl | rfl
      · rw [if_pos (by decide)]
      · rw [if_neg (by decide), if_pos (by decide)]
    obtain ⟨l, hl⟩ : ∃ l, l = fun p => (σ.1 2 p).toNatClampNeg := ⟨_, rfl⟩
    rw [← hl] at pl
    by_cases q : 1 ≤ pn ∧ pn ≤ 8 ∧ alln l pn
    · have hT : TN (fun k => l k - 97) pn := ⟨q.2.1, fun k hk => by have := q.2.2 k hk; show l k - 97 < 12; omega⟩
      have hne : ¬ enc (fun k => l k - 97) pn = 0 := fun z => by have := (enc_ne0 hT).mp z; omega
      obtain ⟨τ, hτ⟩ : ∃ τ, τ = uI (uL σ 6 (5 + w) (enc (fun k => l k - 97) pn)) 1 1 0 := ⟨_, rfl⟩
      refine ⟨nI pn, τ, ?_, uI (uI (uA τ (25 + w) (mx (τ.1 (25 + w)) (fun k => l k - 97) pn)) 20 (13 + w) (nI pn)) 20 1 0, ?_, ?_⟩
      · rw [eX, f_X10_tune_B12, asTune_P pl, o_bs, if_pos q, if_neg hne, setTune_X w1, o_bs, o_bs, length_enc hT, o_bs, hτ]
      · rw [f_X11_tune, w3, o_bs, if_neg (by decide)]
        have e20 : τ.1 20 = σ.1 20 := by rw [hτ]; rfl
        have e21 : τ.1 21 = σ.1 21 := by rw [hτ]; rfl
        have e2 : f_X11_isTuneText τ = f_X11_isTuneText σ := by
          have gen : ∀ (τ : ST), τ.1 20 = σ.1 20 → τ.1 21 = σ.1 21 → ∀ f x y, f_X11_isTuneText_L15 τ f x y = f_X11_isTuneText_L15 σ f x y := fun τ e1 e2 f => by
            induction f with
            | zero => intro x y; rfl
            | succ f ih =>
              intro x y
              rw [f_X11_isTuneText_L15, f_X11_isTuneText_L15, e1, e2]
              simp only [ih]
          rw [f_X11_isTuneText, f_X11_isTuneText, e20]
          simp only [gen _ e20 e21]
        rw [e2, isTT_P pl, if_pos q, o_bs, if_neg (by decide), o_bs, e20, pl.2.2.1]
        exact tune_M w1 q.1 q.2.1 (fun p hp => by rw [e21, (pl.2.2.2 p hp).2.2.2, sub97 (q.2.2 p hp)])
      · have hrow : ∀ f : Nat → Int32, ∀ k, k < pn → mx f (fun k => l k - 97) pn k = nI (l k - 97) := fun f k hk => by rw [mx, if_pos hk]
        subst hτ
        rcases (show w = 0 ∨ w = 1 by omega) with rfl | rfl
        · exact ⟨0, z, cc, kd, on, ot, rd, wy, ⟨by decide, rfl, rfl, h1.2.2.2.1, fun k hk => absurd hk (Nat.not_lt_zero k)⟩, h2, ⟨n1, n2, n3, ⟨fun k => l k - 97, pn, hT, hrow _, rfl, rfl⟩, n5, n6⟩, ⟨by omega, h4.2⟩, h5, h6⟩
        · exact ⟨0, z, cc, kd, on, ot, rd, wy, ⟨by decide, rfl, rfl, h1.2.2.2.1, fun k hk => absurd hk (Nat.not_lt_zero k)⟩, h2, ⟨n1, n2, n3, n4, ⟨fun k => l k - 97, pn, hT, hrow _, rfl, rfl⟩, n6⟩, ⟨by omega, h4.2⟩, h5, h6⟩
    · refine ⟨-103, σ, ?_, σ, ?_, inv_mono t σ hI⟩
      · rw [eX, f_X10_tune_B12, asTune_P pl, o_bs, if_neg q, if_pos rfl]
      · rw [f_X11_tune, w3, o_bs, if_neg (by decide), isTT_P pl, if_neg q, o_bs, if_pos rfl]
  · exact ⟨-101, σ, by rw [f_X10_tune, if_neg a2, if_neg a3], σ, by rw [f_X11_tune, a1]; rfl, inv_mono t σ hI⟩
