/-! count(), near(), walk() -/
def cnE (on ot : Nat → Nat) (z cr : Nat) : Nat := itr (fun i a => if EN on ot i cr then a + 1 else a) 0 z 0
def cnP (kd on ot : Nat → Nat) (b : Nat) (g : Nat → Nat) (n z cr : Nat) : Nat := itr (fun i a => if PS kd on ot b g n cr i then a + 1 else a) 0 z 0
theorem cnE_le (on ot : Nat → Nat) (z cr : Nat) : cnE on ot z cr ≤ z := by
  have := itr_inv (step := fun i a => if EN on ot i cr then a + 1 else a) (fun j a => a ≤ j) z 0 0 (fun i a h1 h2 h3 => by
    show (if EN on ot i cr then a + 1 else a) ≤ i + 1
    split <;> omega) (by decide)
  have h2 : cnE on ot z cr ≤ 0 + z := this
  omega
theorem countAt_V {σ : ST} {z c b : Nat} {kd on ot tn : Nat → Nat} (v : VW σ z c kd on ot tn b) {cr : Nat} (hc : cr < 2 ^ 31) : f_X1_countAt σ (nI cr) = some (nI (cnE on ot z cr)) := by
  have hz := v.z8
  rw [f_X1_countAt]
  have kk := loopN (α := Nat) (fun fu i a => f_X1_countAt_L4 σ fu (nI cr) (nI a) i) z (fun _ _ => True) (fun i a => if EN on ot i cr then a + 1 else a) (fun a => some (nI a))
    (fun f j a hj _ => by
      show f_X1_countAt_L4 σ (f + 1) (nI cr) (nI a) (nI j) = _
      obtain ⟨ad, s, ef, -⟩ := pass_V v (g := fun _ => 0) (n := 0) hj hc ⟨by decide, fun k hk => absurd hk (Nat.not_lt_zero k)⟩
      rw [f_X1_countAt_L4, v.xz, if_neg (nI_ge hj (by omega)), ef, o_bs]
      by_cases q : EN on ot j cr
      · rw [if_pos q, if_pos q]
        show f_X1_countAt_L4 σ f (nI cr) (nI a + 1) (nI j + 1) = _
        rw [nI_1 a, nI_1 j]
      · rw [if_neg q, if_neg q]
        show f_X1_countAt_L4 σ f (nI cr) (nI a) (nI j + 1) = _
        rw [nI_1 j])
    (fun _ _ _ _ => trivial)
    (fun f a _ => by
      show f_X1_countAt_L4 σ (f + 1) (nI cr) (nI a) (nI z) = _
      rw [f_X1_countAt_L4, v.xz, if_pos (nI_le (Nat.le_refl z) (by omega))])
  exact kk z 0 0 fuel (by omega) (by rw [fuel_eq]; omega) trivial
theorem endsMany_M {σ : ST} {z c b : Nat} {kd on ot tn : Nat → Nat} (v : VW σ z c kd on ot tn b) {cr : Nat} (hc : cr < 2 ^ 31) : f_X11_endsMany σ (nI cr) = some (nI (cnE on ot z cr)) := by
  have hz := v.z8
  rw [f_X11_endsMany]
  have kk := loopN (α := Nat) (fun fu i a => f_X11_endsMany_L4 σ fu (nI cr) (nI a) i) z (fun _ _ => True) (fun i a => if EN on ot i cr then a + 1 else a) (fun a => some (nI a))
    (fun f j a hj _ => by
      show f_X11_endsMany_L4 σ (f + 1) (nI cr) (nI a) (nI j) = _
      rw [f_X11_endsMany_L4, v.mz, if_neg (nI_ge hj (by omega)), endsAt_M v hj hc, o_bs]
      by_cases q : EN on ot j cr
      · rw [if_pos q, if_pos q]
        show f_X11_endsMany_L4 σ f (nI cr) (nI a + 1) (nI j + 1) = _
        rw [nI_1 a, nI_1 j]
      · rw [if_neg q, if_neg q]
        show f_X11_endsMany_L4 σ f (nI cr) (nI a + 0) (nI j + 1) = _
        rw [Int32.add_zero, nI_1 j])
    (fun _ _ _ _ => trivial)
    (fun f a _ => by
      show f_X11_endsMany_L4 σ (f + 1) (nI cr) (nI a) (nI z) = _
      rw [f_X11_endsMany_L4, v.mz, if_pos (nI_le (Nat.le_refl z) (by omega))])
  exact kk z 0 0 fuel (by omega) (by rw [fuel_eq]; omega) trivial
theorem countOpen_V {σ : ST} {z c b : Nat} {kd on ot tn : Nat → Nat} (v : VW σ z c kd on ot tn b) {cr n0 n1 : Nat} {g0 g1 : Nat → Nat} (tu : TU σ g0 n0 g1 n1) (hc : CR σ z c cr) : f_X9_countOpen σ = some (nI (cnP kd on ot b g0 n0 z cr)) := by
  have hz := v.z8
  obtain ⟨t0, t1, r0, r1, e0, e1, l0, l1⟩ := tu
  obtain ⟨c1, c2, c3, c4⟩ := hc
  rw [f_X9_countOpen]
  have kk := loopN (α := Nat) (fun fu i a => f_X9_countOpen_L4 σ fu (nI a) i) z (fun _ _ => True) (fun i a => if PS kd on ot b g0 n0 cr i then a + 1 else a) (fun a => some (nI a))
    (fun f j a hj _ => by
      show f_X9_countOpen_L4 σ (f + 1) (nI a) (nI j) = _
      obtain ⟨ad, s, -, ep⟩ := pass_V v (g := g0) (n := n0) (cr := cr) hj (by omega) t0
      rw [f_X9_countOpen_L4, v.xz, if_neg (nI_ge hj (by omega)), c3, l0, ep, o_bs]
      by_cases q : PS kd on ot b g0 n0 cr j
      · rw [if_pos q, if_pos q]
        show f_X9_countOpen_L4 σ f (nI a + 1) (nI j + 1) = _
        rw [nI_1 a, nI_1 j]
      · rw [if_neg q, if_neg q]
        show f_X9_countOpen_L4 σ f (nI a) (nI j + 1) = _
        rw [nI_1 j])
    (fun _ _ _ _ => trivial)
    (fun f a _ => by
      show f_X9_countOpen_L4 σ (f + 1) (nI a) (nI z) = _
      rw [f_X9_countOpen_L4, v.xz, if_pos (nI_le (Nat.le_refl z) (by omega))])
  exact kk z 0 0 fuel (by omega) (by rw [fuel_eq]; omega) trivial
theorem openMany_M {σ : ST} {z c b : Nat} {kd on ot tn : Nat → Nat} (v : VW σ z c kd on ot tn b) {cr n0 n1 : Nat} {g0 g1 : Nat → Nat} (tu : TU σ g0 n0 g1 n1) (hc : CR σ z c cr) : f_X11_openMany σ = some (nI (if n0 = 0 then 0 else cnP kd on ot b g0 n0 z cr)) := by
  have hz := v.z8
  obtain ⟨t0, t1, r0, r1, e0, e1, l0, l1⟩ := tu
  obtain ⟨c1, c2, c3, c4⟩ := hc
  have h8 := t0.1
  rw [f_X11_openMany]
  by_cases q0 : n0 = 0
  · rw [if_pos q0]
    obtain ⟨f, hf⟩ := fuel_s
    rw [hf, f_X11_openMany_L4, e0, q0]
    by_cases q1 : σ.1 20 3 ≤ 0
    · rw [if_pos q1]; rfl
    · rw [if_neg q1, if_pos (by decide)]; rfl
  · rw [if_neg q0]
    have kk := loopN (α := Nat) (fun fu i a => f_X11_openMany_L4 σ fu (nI a) i) z (fun _ _ => True) (fun i a => if PS kd on ot b g0 n0 cr i then a + 1 else a) (fun a => some (nI a))
      (fun f j a hj _ => by
        show f_X11_openMany_L4 σ (f + 1) (nI a) (nI j) = _
        rw [f_X11_openMany_L4, v.mz, if_neg (nI_ge hj (by omega)), e0, if_neg (nI_nle (by omega) (by omega)), c4, endsAt_M v hj (by omega), o_bs, isOpen_M v hj t0 r0]
        by_cases q : EN on ot j cr
        · rw [if_pos q, if_neg (by decide), o_bs]
          by_cases q2 : OP kd b g0 n0 j
          · rw [if_pos q2, if_neg (by decide), if_pos ⟨q, q2⟩]
            show f_X11_openMany_L4 σ f (nI a + 1) (nI j + 1) = _
            rw [nI_1 a, nI_1 j]
          · rw [if_neg q2, if_pos rfl, if_neg (fun z => q2 z.2)]
            show f_X11_openMany_L4 σ f (nI a + 0) (nI j + 1) = _
            rw [Int32.add_zero, nI_1 j]
        · rw [if_neg q, if_pos rfl, if_neg (fun z => q z.1)]
          show f_X11_openMany_L4 σ f (nI a + 0) (nI j + 1) = _
          rw [Int32.add_zero, nI_1 j])
      (fun _ _ _ _ => trivial)
      (fun f a _ => by
        show f_X11_openMany_L4 σ (f + 1) (nI a) (nI z) = _
        rw [f_X11_openMany_L4, v.mz, if_pos (nI_le (Nat.le_refl z) (by omega))])
    exact kk z 0 0 fuel (by omega) (by rw [fuel_eq]; omega) trivial
theorem ite_some {α : Type} {c : Prop} [Decidable c] (x y : α) : (if c then some x else some y) = some (if c then x else y) := by
  by_cases q : c
  · rw [if_pos q, if_pos q]
  · rw [if_neg q, if_neg q]
/-- the numbers that both hold alike -/
def NB (σ : ST) : Prop := σ.1 4 1 = σ.1 20 2 ∧ σ.1 6 9 = σ.1 20 6 ∧ σ.1 1 1 = σ.1 20 1 ∧ σ.1 0 5 = σ.1 20 7 ∧ σ.1 0 7 = σ.1 20 20
theorem SE.nb {σ τ : ST} (h : SE σ τ) (v : NB σ) : NB τ := by
  obtain ⟨e, e2, h3, h4⟩ := h.e
  unfold NB at v ⊢
  rw [e 4 (by decide), e 6 (by decide), e 1 (by decide), e 0 (by decide), e2 2 (by decide), e2 6 (by decide), e2 1 (by decide), e2 7 (by decide), e2 20 (by decide)]
  exact v
theorem inv_nb {t : Nat} {σ : ST} (h : Inv t σ) : NB σ := by
  obtain ⟨pn, z, cc, kd, on, ot, rd, wy, h1, h2, h3, h4, h5, h6⟩ := h
  obtain ⟨n1, n2, n3, -, -, -, -, ⟨w, w1, w2, w3⟩, -⟩ := h3
  exact ⟨by rw [h2.2.2.2.2.2.1, h2.2.2.2.2.2.2.1], by rw [w2, w3], by rw [h1.2.1, h1.2.2.1], by rw [h4.2.1, h4.2.2.1], by rw [h5.2.1, h5.2.2]⟩
/-- what count() tells, off the class's cells -/
def cntV (σ : ST) (kd on ot : Nat → Nat) (b : Nat) (g0 : Nat → Nat) (n0 n1 z cr : Nat) (p : Int32) : Int32 := if p = 0 then σ.1 20 2 else if p = 1 then nI z else if p = 2 then nI cr else if p = 3 then nI b else if p = 4 then nI (cnE on ot z cr) else if p = 5 then nI (if n0 = 0 then 0 else cnP kd on ot b g0 n0 z cr) else if p = 6 then σ.1 20 6 else if p = 7 then nI n0 else if p = 8 then nI n1 else if p = 9 then σ.1 20 23 else if p = 10 then σ.1 20 1 else if p = 11 then σ.1 20 7 else if p = 12 then σ.1 20 20 else -102
theorem count_X {σ : ST} {z c b : Nat} {kd on ot tn : Nat → Nat} (v : VW σ z c kd on ot tn b) {cr n0 n1 m : Nat} {g0 g1 : Nat → Nat} (tu : TU σ g0 n0 g1 n1) (hc : CR σ z c cr) (sg : SG σ m) (nb : NB σ) (p : Int32) : f_X10_count σ p = some (cntV σ kd on ot b g0 n0 n1 z cr p) := by
  obtain ⟨n1', n2', n3', n4', n5'⟩ := nb
  have tu' := tu
  have hc' := hc
  obtain ⟨t0, t1, r0, r1, e0, e1, l0, l1⟩ := tu
  obtain ⟨c1, c2, c3, c4⟩ := hc
  have hb : (if nI b = 0 then some (0 : Int32) else some 1) = some (nI b) := by
    have hb := v.2.2.1
    rcases (show b = 0 ∨ b = 1 by omega) with rfl | rfl <;> rfl
  have h5 : (if enc g0 n0 = 0 then some (0 : Int32) else some (nI (cnP kd on ot b g0 n0 z cr))) = some (nI (if n0 = 0 then 0 else cnP kd on ot b g0 n0 z cr)) := by
    rw [q_if (enc_ne0 t0)]
    by_cases q : n0 = 0
    · rw [if_pos q, if_pos q]; rfl
    · rw [if_neg q, if_neg q]
  rw [f_X10_count, cntV, n1', v.xz, c3, v.2.2.2.1, countAt_V v (by omega), l0, countOpen_V v tu' hc', n2', length_enc t0, l1, length_enc t1, sg.2.1, ← sg.2.2.1, n3', n4', n5', o_bs, o_bs, o_bs, o_bs, hb, h5]
  simp only [ite_some]
theorem count_M {σ : ST} {z c b : Nat} {kd on ot tn : Nat → Nat} (v : VW σ z c kd on ot tn b) {cr n0 n1 m : Nat} {g0 g1 : Nat → Nat} (tu : TU σ g0 n0 g1 n1) (hc : CR σ z c cr) (p : Int32) : f_X11_countOf σ p = some (cntV σ kd on ot b g0 n0 n1 z cr p) := by
  have tu' := tu
  have hc' := hc
  obtain ⟨t0, t1, r0, r1, e0, e1, l0, l1⟩ := tu
  obtain ⟨c1, c2, c3, c4⟩ := hc
  have hb : (if nI b = 0 then some (0 : Int32) else some 1) = some (nI b) := by
    have hb := v.2.2.1
    rcases (show b = 0 ∨ b = 1 by omega) with rfl | rfl <;> rfl
  rw [f_X11_countOf, cntV, v.mz, c4, v.2.2.2.2, endsMany_M v (by omega), openMany_M v tu' hc', o_bs, o_bs, hb]
  by_cases q7 : p = 7
  · subst q7
    show (f_X11_manyOf σ (7 - 7)).bind _ = some (nI n0)
    rw [show (7 - 7 : Int32) = nI 0 from rfl, many_M (by decide) ⟨t0, r0, e0⟩]; rfl
  by_cases q8 : p = 8
  · subst q8
    show (f_X11_manyOf σ (8 - 7)).bind _ = some (nI n1)
    rw [show (8 - 7 : Int32) = nI 1 from rfl, many_M (by decide) ⟨t1, r1, e1⟩]; rfl
  rw [if_neg q7, if_neg q7, if_neg q8, if_neg q8]
  simp only [ite_some]
theorem sp_count {t : Nat} {σ : ST} (h : Inv t σ) (a b c : Int32) : SP23 (Inv (t + 1)) σ a b c := by
  obtain ⟨z, cc, kd, on, ot, tn, nb, g0, n0, g1, n1, cr, m, v, tu, hc, sg, -⟩ := inv_all h
  refine ⟨_, count_X v tu hc sg (inv_nb h) a, ?_, inv_mono t σ h⟩
  rw [f_X11_count, count_M (m := m) v tu hc a, o_bs]
/-! near() -/
def nrS (kd on ot tn : Nat → Nat) (b : Nat) (g0 : Nat → Nat) (n0 : Nat) (g1 : Nat → Nat) (n1 cr i : Nat) (a : Int32 × Nat) : Int32 × Nat := if PS kd on ot b g0 n0 cr i then (if a.2 ≤ apt (tr (kd i) (tn i) g0 n0) n0 g1 n1 then a else (nI i, apt (tr (kd i) (tn i) g0 n0) n0 g1 n1)) else a
def nrV (kd on ot tn : Nat → Nat) (b : Nat) (g0 : Nat → Nat) (n0 : Nat) (g1 : Nat → Nat) (n1 cr z : Nat) : Int32 := (itr (nrS kd on ot tn b g0 n0 g1 n1 cr) 0 z (-1, 9)).1
theorem apt_le (g : Nat → Nat) (n : Nat) (g' : Nat → Nat) (n' : Nat) : apt g n g' n' ≤ 8 := by
  have := itr_inv (step := fun k a => if nt g n k = nt g' n' k then a else a + 1) (fun j a => a ≤ j) 8 0 0 (fun i a h1 h2 h3 => by
    show (if nt g n i = nt g' n' i then a else a + 1) ≤ i + 1
    split <;> omega) (by decide)
  exact this
theorem nrS_le {kd on ot tn : Nat → Nat} {b : Nat} {g0 : Nat → Nat} {n0 : Nat} {g1 : Nat → Nat} {n1 cr i : Nat} {a : Int32 × Nat} (h : a.2 ≤ 9) : (nrS kd on ot tn b g0 n0 g1 n1 cr i a).2 ≤ 9 := by
  unfold nrS
  split
  · split
    · exact h
    · exact Nat.le_succ_of_le (apt_le _ _ _ _)
  · exact h
theorem near_X {σ : ST} {z c b : Nat} {kd on ot tn : Nat → Nat} (v : VW σ z c kd on ot tn b) {cr n0 n1 : Nat} {g0 g1 : Nat → Nat} (tu : TU σ g0 n0 g1 n1) (hc : CR σ z c cr) : f_X9_nearest σ = some (nrV kd on ot tn b g0 n0 g1 n1 cr z) := by
  have hz := v.z8
  obtain ⟨t0, t1, r0, r1, e0, e1, l0, l1⟩ := tu
  obtain ⟨c1, c2, c3, c4⟩ := hc
  rw [f_X9_nearest]
  have kk := loopN (α := Int32 × Nat) (fun fu i a => f_X9_nearest_L7 σ fu a.1 (nI a.2) i) z (fun _ a => a.2 ≤ 9) (nrS kd on ot tn b g0 n0 g1 n1 cr) (fun a => some a.1)
    (fun f j a hj ha => by
      show f_X9_nearest_L7 σ (f + 1) a.1 (nI a.2) (nI j) = _
      obtain ⟨ad, s, -, ep⟩ := pass_V v (g := g0) (n := n0) (cr := cr) hj (by omega) t0
      have hw := v.row hj
      have hl := apt_le (tr (kd j) (tn j) g0 n0) n0 g1 n1
      rw [f_X9_nearest_L7, v.xz, if_neg (nI_ge hj (by omega)), c3, l0, l1, ep, o_bs, nrS]
      by_cases q : PS kd on ot b g0 n0 cr j
      · rw [if_pos q, if_pos q]
        show ((f_X3_tonic σ (nI j)).bind fun r7 => (if pv σ ad then (f_X7_carry ad σ (enc g0 n0) r7).bind _ else none)) = _
        rw [tonic_V v hj, o_bs, if_pos s.1, carry_X t0 (v.2.1 j hj).1 hw.1 s.2.1, o_bs, unlike_X (tr_TN t0) t1, o_bs, q_if (nI_leI (by omega) (by omega))]
        by_cases q2 : a.2 ≤ apt (tr (kd j) (tn j) g0 n0) n0 g1 n1
        · rw [if_pos q2, if_pos q2, o_bs, nI_1]
        · rw [if_neg q2, if_neg q2, o_bs, nI_1]
      · rw [if_neg q, if_neg q]
        show f_X9_nearest_L7 σ f a.1 (nI a.2) (nI j + 1) = _
        rw [nI_1 j])
    (fun _ _ _ h => nrS_le h)
    (fun f a _ => by
      show f_X9_nearest_L7 σ (f + 1) a.1 (nI a.2) (nI z) = _
      rw [f_X9_nearest_L7, v.xz, if_pos (nI_le (Nat.le_refl z) (by omega))])
  exact kk z 0 (-1, 9) fuel (by omega) (by rw [fuel_eq]; omega) (by decide)
theorem near_M {σ : ST} {z c b : Nat} {kd on ot tn : Nat → Nat} (v : VW σ z c kd on ot tn b) {cr n0 n1 : Nat} {g0 g1 : Nat → Nat} (tu : TU σ g0 n0 g1 n1) (hc : CR σ z c cr) (hn : n0 ≠ 0) : ∃ σ', SM σ σ' ∧ f_X11_nearOf σ = some (nrV kd on ot tn b g0 n0 g1 n1 cr z, σ') := by
  have hz := v.z8
  rw [f_X11_nearOf]
  refine loopK (α := Int32 × Nat) (fun fu i a τ => f_X11_nearOf_L7 fu a.1 (nI a.2) i τ) z (SM σ) (fun _ a => a.2 ≤ 9) (nrS kd on ot tn b g0 n0 g1 n1 cr) (fun a τ => some (a.1, τ)) (fun f j a τ hj ha hS => ?_) (fun _ _ _ h => nrS_le h) (fun f a τ ha hS => ?_) z 0 (-1, 9) fuel σ (by omega) (by rw [fuel_eq]; omega) (by decide) (SM.rf σ)
  · show ∃ σ', SM σ σ' ∧ f_X11_nearOf_L7 (f + 1) a.1 (nI a.2) (nI j) τ = f_X11_nearOf_L7 f (nrS kd on ot tn b g0 n0 g1 n1 cr j a).1 (nI (nrS kd on ot tn b g0 n0 g1 n1 cr j a).2) (nI (j + 1)) σ'
    have v' := hS.vw v
    obtain ⟨t0, t1, r0, r1, e0, e1, l0, l1⟩ := hS.tu tu
    obtain ⟨c1, c2, c3, c4⟩ := hS.cr hc
    have h8 := t0.1
    have hl := apt_le (tr (kd j) (tn j) g0 n0) n0 g1 n1
    rw [f_X11_nearOf_L7, v'.mz, if_neg (nI_ge hj (by omega)), c4, endsAt_M v' hj (by omega), o_bs, e0, isOpen_M v' hj t0 r0, nrS]
    by_cases q : EN on ot j cr
    · rw [if_pos q, if_neg (by decide), o_bs]
      by_cases q2 : OP kd b g0 n0 j
      · rw [if_pos q2, if_neg (by decide), if_pos ⟨q, q2⟩, copy_M (by decide) (by decide) (by decide), o_bs]
        obtain ⟨τ1, h1⟩ : ∃ τ1, τ1 = uA τ 28 (fun k => if k < 8 then τ.1 25 k else τ.1 28 k) := ⟨_, rfl⟩
        rw [← h1]
        have s1 : SM τ τ1 := by rw [h1]; exact SM.uA τ 28 _ (by decide)
        have v1 := s1.vw v'
        have r28 : RW τ1 28 g0 n0 := fun k hk => by rw [h1, uA_1, if_pos (by omega)]; exact r0 k hk
        obtain ⟨τ2, h2⟩ : ∃ τ2, τ2 = uA τ1 28 (mx (τ1.1 28) (tr (kd j) (tn j) g0 n0) n0) := ⟨_, rfl⟩
        have s2 : SM τ1 τ2 := by rw [h2]; exact SM.uA τ1 28 _ (by decide)
        obtain ⟨-, -, -, r1', e0', e1', -, -⟩ := (s1.tr s2).tu ⟨t0, t1, r0, r1, e0, e1, l0, l1⟩
        obtain ⟨-, -, -, -, e0'', -, -, -⟩ := s1.tu ⟨t0, t1, r0, r1, e0, e1, l0, l1⟩
        have r28' : RW τ2 28 (tr (kd j) (tn j) g0 n0) n0 := by rw [h2]; exact mx_RW
        refine ⟨τ2, (hS.tr s1).tr s2, ?_⟩
        rw [e0'', goStreet_M v1 hj t0 (by omega) r28, ← h2, o_bs, e0', e1', apart_M (tr_TN t0) t1 r28' r1', o_bs, o_bs, f_X11_nearOf_B99, o_bs, o_bs, nI_1]
        by_cases q3 : a.2 ≤ apt (tr (kd j) (tn j) g0 n0) n0 g1 n1
        · rw [if_pos q3, if_pos (nI_le q3 (by omega)), if_pos (nI_le q3 (by omega))]
        · rw [if_neg q3, if_neg (nI_ge (by omega) (by omega)), if_neg (nI_ge (by omega) (by omega))]
      · rw [if_neg q2, if_pos rfl, if_neg (fun z => q2 z.2), o_bs, nI_1]
        exact ⟨τ, hS, rfl⟩
    · rw [if_neg q, if_pos rfl, if_neg (fun z => q z.1), o_bs, nI_1]
      exact ⟨τ, hS, rfl⟩
  · show ∃ σ', SM σ σ' ∧ f_X11_nearOf_L7 (f + 1) a.1 (nI a.2) (nI z) τ = some (a.1, σ')
    have v' := hS.vw v
    exact ⟨τ, hS, by rw [f_X11_nearOf_L7, v'.mz, if_pos (nI_le (Nat.le_refl z) (by omega))]⟩
theorem lacks_V {σ : ST} {z c b : Nat} {kd on ot tn : Nat → Nat} (v : VW σ z c kd on ot tn b) : f_X11_lacks σ = some (if z = 0 then 1 else 0) ∧ f_X10_noCity σ = some (if z = 0 then 1 else 0) := lacks_M v.1
theorem both_V {σ : ST} {g0 g1 : Nat → Nat} {n0 n1 : Nat} (tu : TU σ g0 n0 g1 n1) : f_X11_areBoth σ = some (if n0 = 0 ∨ n1 = 0 then 0 else 1) ∧ f_X10_noTunes σ = some (if n0 = 0 ∨ n1 = 0 then 1 else 0) := by
  obtain ⟨t0, t1, r0, r1, e0, e1, l0, l1⟩ := tu
  exact both_M t0 t1 e0 e1 l0 l1
theorem sp_near {t : Nat} {σ : ST} (h : Inv t σ) (a b c : Int32) : SP17 (Inv (t + 1)) σ a b c := by
  obtain ⟨z, cc, kd, on, ot, tn, nb, g0, n0, g1, n1, cr, m, v, tu, hc, sg, -⟩ := inv_all h
  obtain ⟨l1, l2⟩ := lacks_V v
  obtain ⟨b1, b2⟩ := both_V tu
  by_cases q : z = 0
  · rw [if_pos q] at l1 l2
    exact ⟨-103, by rw [f_X10_near, l2]; rfl, σ, by rw [f_X11_near, l1]; rfl, inv_mono t σ h⟩
  · rw [if_neg q] at l1 l2
    by_cases q2 : n0 = 0 ∨ n1 = 0
    · rw [if_pos q2] at b1 b2
      exact ⟨-103, by rw [f_X10_near, l2, o_bs, if_pos rfl, b2]; rfl, σ, by rw [f_X11_near, l1, o_bs, if_pos rfl, b1]; rfl, inv_mono t σ h⟩
    · rw [if_neg q2] at b1 b2
      obtain ⟨σ', hS, e⟩ := near_M v tu hc (fun z => q2 (Or.inl z))
      refine ⟨nrV kd on ot tn nb g0 n0 g1 n1 cr z, ?_, σ', ?_, inv_mono t σ' (hS.inv h)⟩
      · rw [f_X10_near, l2, o_bs, if_pos rfl, b2, o_bs, if_pos rfl, near_X v tu hc, o_bs]
      · rw [f_X11_near, l1, o_bs, if_pos rfl, b1, o_bs, if_neg (by decide), e, o_b2s]
