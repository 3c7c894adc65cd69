/-! THE VIEW: the city, its tonics and the night, as both hold them -/
def VW (σ : ST) (z c : Nat) (kd on ot tn : Nat → Nat) (b : Nat) : Prop := CI z c kd on ot (σ.1 4 1) (σ.1 4 2) (σ.1 20 2) (σ.1 20 3) (σ.1 22) σ.2.2 ∧ (∀ i, i < z → tn i < 12 ∧ σ.1 7 i = nI (tn i) ∧ σ.1 23 i = nI (tn i)) ∧ b < 2 ∧ σ.1 6 8 = nI b ∧ σ.1 20 5 = nI b
theorem SE.e {σ τ : ST} (h : SE σ τ) : (∀ o, o ∈ [0, 1, 2, 4, 6, 7, 8, 9, 10, 11, 14, 15, 16, 17, 18, 19, 21, 22, 23, 24, 25, 26, 33, 35, 36, 37, 38, 39] → τ.1 o = σ.1 o) ∧ (∀ k, k ∈ [1, 2, 3, 4, 5, 6, 7, 13, 14, 20, 23, 27, 28, 29, 30, 31, 32, 33] → τ.1 20 k = σ.1 20 k) ∧ τ.2.1 6 = σ.2.1 6 ∧ τ.2.2 = σ.2.2 := by
  obtain ⟨h1, h2, h3, h4⟩ := h
  refine ⟨fun o ho => ?_, fun k hk => ?_, h3 6 (by decide) (by decide) (by decide), h4⟩
  · apply h1 o <;> (intro q; subst q; revert ho; decide)
  · apply h2 k <;> (intro q; subst q; revert hk; decide)
theorem SE.vw {σ τ : ST} {z c b : Nat} {kd on ot tn : Nat → Nat} (h : SE σ τ) (v : VW σ z c kd on ot tn b) : VW τ z c kd on ot tn b := by
  obtain ⟨e, e2, -, h4⟩ := h.e
  unfold VW at v ⊢
  rw [e 4 (by decide), e 22 (by decide), e 7 (by decide), e 23 (by decide), e 6 (by decide), e2 2 (by decide), e2 3 (by decide), e2 5 (by decide), h4]
  exact v
abbrev EN (on ot : Nat → Nat) (i cr : Nat) : Prop := cr = on i ∨ cr = ot i
abbrev OP (kd : Nat → Nat) (b : Nat) (g : Nat → Nat) (n i : Nat) : Prop := ¬ (kd i = 2 ∧ b = 1 ∧ tri g n ≠ 0)
abbrev PS (kd on ot : Nat → Nat) (b : Nat) (g : Nat → Nat) (n cr i : Nat) : Prop := EN on ot i cr ∧ OP kd b g n i
theorem tri_le {g : Nat → Nat} {n : Nat} (h : TN g n) : tri g n ≤ 8 := by
  have h8 := h.1
  have := itr_inv (step := fun j a => if g j = g (j - 1) + 6 ∨ g (j - 1) = g j + 6 then a + 1 else a) (fun j a => a + 1 ≤ j) (n - 1) 1 0 (fun i a h1 h2 h3 => by
    show (if g i = g (i - 1) + 6 ∨ g (i - 1) = g i + 6 then a + 1 else a) + 1 ≤ i + 1
    split <;> omega) (by decide)
  have h2 : tri g n + 1 ≤ 1 + (n - 1) := this
  omega
theorem VW.z8 {σ : ST} {z c b : Nat} {kd on ot tn : Nat → Nat} (v : VW σ z c kd on ot tn b) : z ≤ 8 := v.1.2.1
theorem VW.xz {σ : ST} {z c b : Nat} {kd on ot tn : Nat → Nat} (v : VW σ z c kd on ot tn b) : σ.1 4 2 = nI z := v.1.2.2.2.2.2.2.2.1
theorem VW.mz {σ : ST} {z c b : Nat} {kd on ot tn : Nat → Nat} (v : VW σ z c kd on ot tn b) : σ.1 20 3 = nI z := v.1.2.2.2.2.2.2.2.2.1
theorem VW.row {σ : ST} {z c b : Nat} {kd on ot tn : Nat → Nat} (v : VW σ z c kd on ot tn b) {i : Nat} (hi : i < z) : kd i < 5 ∧ on i < 5 ∧ ot i < 5 ∧ on i ≠ ot i ∧ σ.1 22 (3 * i) = nI (kd i) ∧ σ.1 22 (3 * i + 1) = nI (on i) ∧ σ.1 22 (3 * i + 2) = nI (ot i) := by
  have h5 := v.1.2.2.2.2.1
  obtain ⟨a1, a2, a3, a4, a5, a6, a7, -⟩ := v.1.2.2.2.2.2.2.2.2.2 i hi
  exact ⟨a1, by omega, by omega, a4, a5, a6, a7⟩
theorem at_V {σ : ST} {z c b : Nat} {kd on ot tn : Nat → Nat} (v : VW σ z c kd on ot tn b) {i : Nat} (hi : i < z) : ∃ a, f_X1_at σ (nI i) = some (some a) ∧ STR σ kd on ot i a := by
  have hz := v.z8
  obtain ⟨-, -, -, -, -, -, -, a, b1, b2, b3, b4, b5⟩ := v.1.2.2.2.2.2.2.2.2.2 i hi
  refine ⟨a, ?_, ⟨b2, by rw [b3]; exact xk_pv _⟩, b3, b4, b5⟩
  rw [f_X1_at, if_neg (nI_pos (by omega)), v.xz, if_neg (nI_ge hi (by omega)), if_neg (show ¬ (8 : Int32) ≤ nI i from nI_ge (a := i) (b := 8) (by omega) (by decide)), if_pos (by rw [q_in (by omega)]; omega), q_cl (by omega), b1]
theorem tonic_V {σ : ST} {z c b : Nat} {kd on ot tn : Nat → Nat} (v : VW σ z c kd on ot tn b) {i : Nat} (hi : i < z) : f_X3_tonic σ (nI i) = some (nI (tn i)) := by
  have hz := v.z8
  rw [tonic_X (by omega), (v.2.1 i hi).2.1]
theorem endsAt_V {σ : ST} {z c b : Nat} {kd on ot tn : Nat → Nat} (v : VW σ z c kd on ot tn b) {i a cr : Nat} (hi : i < z) (s : STR σ kd on ot i a) (hc : cr < 2 ^ 31) : f_X7_endsAt a σ (nI cr) = some (if EN on ot i cr then 1 else 0) := by
  obtain ⟨-, -, p3, p4⟩ := s
  have hr := v.row hi
  rw [f_X7_endsAt, p3, p4, q_if (nI_eq hc (by omega)), q_if (nI_eq hc (by omega))]
  by_cases q1 : cr = on i
  · rw [if_pos q1, if_pos (Or.inl q1)]
  · rw [if_neg q1]
    by_cases q2 : cr = ot i
    · rw [if_pos q2, if_pos (Or.inr q2)]
    · rw [if_neg q2, if_neg (fun z => z.elim q1 q2)]
theorem across_V {σ : ST} {z c b : Nat} {kd on ot tn : Nat → Nat} (v : VW σ z c kd on ot tn b) {i a cr : Nat} (hi : i < z) (s : STR σ kd on ot i a) (he : EN on ot i cr) : f_X7_across a σ (nI cr) = some (nI (on i + ot i - cr)) := by
  obtain ⟨-, -, p3, p4⟩ := s
  have hr := v.row hi
  rw [f_X7_across, p3, p4, q_if (nI_eq (by omega) (by omega))]
  by_cases q1 : cr = on i
  · rw [if_pos q1, show on i + ot i - cr = ot i by omega]
  · rw [if_neg q1, show on i + ot i - cr = on i by omega]
theorem open_V {kd : Nat → Nat} {i b n : Nat} {g : Nat → Nat} (hk : kd i < 5) (h : TN g n) (hb : b < 2) : fd_open (xk (kd i)) (enc g n) (nI b) = some (if OP kd b g n i then 1 else 0) := by
  have ht := tri_le h
  rcases (show kd i = 0 ∨ kd i = 1 ∨ kd i = 3 ∨ kd i = 4 ∨ kd i = 2 by omega) with q | q | q | q | q
  · rw [if_pos (fun z => absurd (q.symm.trans z.1) (by decide)), q]; rfl
  · rw [if_pos (fun z => absurd (q.symm.trans z.1) (by decide)), q]; rfl
  · rw [if_pos (fun z => absurd (q.symm.trans z.1) (by decide)), q]; rfl
  · rw [if_pos (fun z => absurd (q.symm.trans z.1) (by decide)), q]; rfl
  · rw [show xk (kd i) = 0 by rw [q]; rfl]
    show f_X0_open (enc g n) (nI b) = _
    rw [f_X0_open]
    rcases (show b = 0 ∨ b = 1 by omega) with rfl | rfl
    · rw [if_pos (by decide), if_pos (fun z => absurd z.2.1 (by decide))]
    · rw [if_neg (by decide), tri_X h, o_bs]
      by_cases q3 : tri g n = 0
      · rw [if_pos (by rw [q3]; rfl), if_pos (fun z => z.2.2 q3)]
      · rw [if_neg (nI_ne0 (by omega) (by omega)), if_neg (fun z => z ⟨q, rfl, q3⟩)]
theorem pass_V {σ : ST} {z c b : Nat} {kd on ot tn : Nat → Nat} (v : VW σ z c kd on ot tn b) {i cr n : Nat} {g : Nat → Nat} (hi : i < z) (hc : cr < 2 ^ 31) (h : TN g n) : ∃ a, STR σ kd on ot i a ∧ f_X1_from σ (nI cr) (nI i) = some (if EN on ot i cr then some a else none) ∧ f_X9_passage σ (nI cr) (nI i) (enc g n) = some (if PS kd on ot b g n cr i then some a else none) := by
  obtain ⟨a, e1, s⟩ := at_V v hi
  have hr := v.row hi
  have ef : f_X1_from σ (nI cr) (nI i) = some (if EN on ot i cr then some a else none) := by
    rw [f_X1_from, e1, o_bs]
    show (if pv σ a then (f_X7_endsAt a σ (nI cr)).bind _ else none) = _
    rw [if_pos s.1, endsAt_V v hi s hc, o_bs]
    by_cases q : EN on ot i cr
    · rw [if_pos q, if_pos q]; rfl
    · rw [if_neg q, if_neg q]; rfl
  refine ⟨a, s, ef, ?_⟩
  rw [f_X9_passage, ef, o_bs]
  by_cases q : EN on ot i cr
  · rw [if_pos q]
    show (if pv σ a then (fd_open (σ.2.2.2.2.1 a) (enc g n) (σ.1 6 8)).bind _ else none) = _
    rw [if_pos s.1, s.2.1, v.2.2.2.1, open_V hr.1 h v.2.2.1, o_bs]
    by_cases q2 : OP kd b g n i
    · rw [if_pos q2, if_neg (by decide), if_pos ⟨q, q2⟩]
    · rw [if_neg q2, if_pos rfl, if_neg (fun z => q2 z.2)]
  · rw [if_neg q, if_neg (fun z => q z.1)]; rfl
/-! the reference -/
theorem endsAt_M {σ : ST} {z c b : Nat} {kd on ot tn : Nat → Nat} (v : VW σ z c kd on ot tn b) {i cr : Nat} (hi : i < z) (hc : cr < 2 ^ 31) : f_X11_endsAt σ (nI i) (nI cr) = some (if EN on ot i cr then 1 else 0) := by
  have hz := v.z8
  have hr := v.row hi
  have e1 : nI (3 * i) + 1 = nI (3 * i + 1) := nI_1 _
  have e2 : nI (3 * i) + 2 = nI (3 * i + 2) := nI_add _ 2
  rw [f_X11_endsAt, mul3, e1, e2, if_pos (show inB (nI (3 * i + 1)) 24 by rw [q_in (by omega)]; omega), if_pos (show inB (nI (3 * i + 2)) 24 by rw [q_in (by omega)]; omega), q_cl (by omega), q_cl (by omega), hr.2.2.2.2.2.1, hr.2.2.2.2.2.2, q_if (nI_eq (by omega) hc), q_if (nI_eq (by omega) hc)]
  by_cases q1 : on i = cr
  · rw [if_pos q1, if_pos (Or.inl q1.symm)]
  · rw [if_neg q1]
    by_cases q2 : ot i = cr
    · rw [if_pos q2, if_pos (Or.inr q2.symm)]
    · rw [if_neg q2, if_neg (fun z => z.elim (fun w => q1 w.symm) (fun w => q2 w.symm))]
theorem otherEnd_M {σ : ST} {z c b : Nat} {kd on ot tn : Nat → Nat} (v : VW σ z c kd on ot tn b) {i cr : Nat} (hi : i < z) (he : EN on ot i cr) : f_X11_otherEnd σ (nI i) (nI cr) = some (nI (on i + ot i - cr)) := by
  have hz := v.z8
  have hr := v.row hi
  have e1 : nI (3 * i) + 1 = nI (3 * i + 1) := nI_1 _
  have e2 : nI (3 * i) + 2 = nI (3 * i + 2) := nI_add _ 2
  rw [f_X11_otherEnd, mul3, e1, e2, if_pos (by rw [q_in (by omega)]; omega), if_pos (by rw [q_in (by omega)]; omega), q_cl (by omega), q_cl (by omega), hr.2.2.2.2.2.1, hr.2.2.2.2.2.2, nI_add, pk_sub (by omega)]
theorem isOpen_M {σ : ST} {z c b : Nat} {kd on ot tn : Nat → Nat} (v : VW σ z c kd on ot tn b) {o i n : Nat} {g : Nat → Nat} (hi : i < z) (h : TN g n) (hr : RW σ o g n) : f_X11_isOpen o 8 σ (nI i) (nI n) = some (if OP kd b g n i then 1 else 0) := by
  have hz := v.z8
  have hw := v.row hi
  have ht := tri_le h
  rw [f_X11_isOpen, mul3, if_pos (by rw [q_in (by omega)]; omega), q_cl (by omega), hw.2.2.2.2.1, v.2.2.2.2, q_if (show nI (kd i) = 2 ↔ kd i = 2 from nI_eq (b := 2) (by omega) (by decide))]
  by_cases q : kd i = 2
  · rw [if_pos q]
    have hb := v.2.2.1
    rcases (show b = 0 ∨ b = 1 by omega) with rfl | rfl
    · rw [if_pos (by decide), if_pos (fun z => absurd z.2.1 (by decide))]
    · rw [if_neg (by decide), tri_M h hr, o_bs]
      by_cases q3 : tri g n = 0
      · rw [if_pos (by rw [q3]; rfl), if_pos (fun z => z.2.2 q3)]
      · rw [if_neg (nI_ne0 (by omega) (by omega)), if_neg (fun z => z ⟨q, rfl, q3⟩)]
  · rw [if_neg q, if_pos (fun z => q z.1)]
theorem goStreet_M {σ : ST} {z c b : Nat} {kd on ot tn : Nat → Nat} (v : VW σ z c kd on ot tn b) {o i n : Nat} {g : Nat → Nat} (hi : i < z) (h : TN g n) (hn : 0 < n) (hr : RW σ o g n) : f_X11_goStreet o 8 (nI i) (nI n) σ = some (uA σ o (mx (σ.1 o) (tr (kd i) (tn i) g n) n)) := by
  have hz := v.z8
  have hw := v.row hi
  have ht := v.2.1 i hi
  rw [f_X11_goStreet, mul3, if_pos (by rw [q_in (by omega)]; omega), if_pos (by rw [q_in (by omega)]; omega), q_cl (by omega), q_cl (by omega), hw.2.2.2.2.1, ht.2.2, go_M h hn hr ht.1 hw.1, o_bs]
theorem mx_RW {σ : ST} {o n : Nat} {f : Nat → Int32} {T : Nat → Nat} : RW (uA σ o (mx f T n)) o T n := fun k hk => by
  rw [uA_1, mx, if_pos hk]
/-! a counting loop that changes scratch cells -/
theorem loopK {α γ : Type} (L : Nat → Int32 → α → ST → γ) (N : Nat) (Q : ST → Prop) (P : Nat → α → Prop) (step : Nat → α → α) (K : α → ST → γ)
    (hs : ∀ n j a σ, j < N → P j a → Q σ → ∃ σ', Q σ' ∧ L (n + 1) (nI j) a σ = L n (nI (j + 1)) (step j a) σ') (hP : ∀ j a, j < N → P j a → P (j + 1) (step j a)) (he : ∀ n a σ, P N a → Q σ → ∃ σ', Q σ' ∧ L (n + 1) (nI N) a σ = K a σ') :
    ∀ m j a fu σ, j + m = N → m < fu → P j a → Q σ → ∃ σ', Q σ' ∧ L fu (nI j) a σ = K (itr step j m a) σ' := by
  intro m
  induction m with
  | zero =>
    intro j a fu σ h1 h2 h3 h4
    obtain ⟨f, rfl⟩ : ∃ f, fu = f + 1 := ⟨fu - 1, by omega⟩
    have : j = N := by omega
    subst this
    exact he f a σ h3 h4
  | succ m ih =>
    intro j a fu σ h1 h2 h3 h4
    obtain ⟨f, rfl⟩ : ∃ f, fu = f + 1 := ⟨fu - 1, by omega⟩
    obtain ⟨σ', q1, q2⟩ := hs f j a σ (by omega) h3 h4
    obtain ⟨τ, q3, q4⟩ := ih (j + 1) (step j a) f σ' (by omega) (by omega) (hP j a (by omega) h3) q1
    exact ⟨τ, q3, by rw [q2, q4, itr]⟩
/-! all that the calls which only tell read -/
def SG (σ : ST) (m : Nat) : Prop := m ≤ 6 ∧ σ.1 6 10 = nI m ∧ σ.1 20 23 = nI m ∧ ∀ i, i < m → σ.1 9 i = σ.1 33 (3 * i) ∧ σ.1 10 i = σ.1 33 (3 * i + 1) ∧ σ.1 11 i = σ.1 33 (3 * i + 2) ∧ (∃ x, x < 12 ∧ σ.1 33 (3 * i + 1) = nI x) ∧ ∃ x, x < 12 ∧ σ.1 33 (3 * i + 2) = nI x
def TU (σ : ST) (g0 : Nat → Nat) (n0 : Nat) (g1 : Nat → Nat) (n1 : Nat) : Prop := TN g0 n0 ∧ TN g1 n1 ∧ RW σ 25 g0 n0 ∧ RW σ 26 g1 n1 ∧ σ.1 20 13 = nI n0 ∧ σ.1 20 14 = nI n1 ∧ σ.2.1 6 5 = enc g0 n0 ∧ σ.2.1 6 6 = enc g1 n1
def CR (σ : ST) (z c cr : Nat) : Prop := cr < 5 ∧ (z ≠ 0 → cr < c) ∧ σ.1 6 7 = nI cr ∧ σ.1 20 4 = nI cr
theorem SE.sg {σ τ : ST} {m : Nat} (h : SE σ τ) (v : SG σ m) : SG τ m := by
  obtain ⟨e, e2, -, h4⟩ := h.e
  unfold SG at v ⊢
  rw [e 6 (by decide), e 9 (by decide), e 10 (by decide), e 11 (by decide), e 33 (by decide), e2 23 (by decide)]
  exact v
theorem SE.tu {σ τ : ST} {g0 g1 : Nat → Nat} {n0 n1 : Nat} (h : SE σ τ) (v : TU σ g0 n0 g1 n1) : TU τ g0 n0 g1 n1 := by
  obtain ⟨e, e2, h3, h4⟩ := h.e
  unfold TU RW at v ⊢
  rw [e 25 (by decide), e 26 (by decide), e2 13 (by decide), e2 14 (by decide), h3]
  exact v
theorem SE.cr {σ τ : ST} {z c cr : Nat} (h : SE σ τ) (v : CR σ z c cr) : CR τ z c cr := by
  obtain ⟨e, e2, h3, h4⟩ := h.e
  unfold CR at v ⊢
  rw [e 6 (by decide), e2 4 (by decide)]
  exact v
theorem inv_all {t : Nat} {σ : ST} (h : Inv t σ) : ∃ z c kd on ot tn b g0 n0 g1 n1 cr m, VW σ z c kd on ot tn b ∧ TU σ g0 n0 g1 n1 ∧ CR σ z c cr ∧ SG σ m ∧ ∀ i, i < z → σ.1 8 i = σ.1 24 i := by
  obtain ⟨pn, z, cc, kd, on, ot, rd, wy, h1, h2, h3, h4, h5, h6⟩ := h
  obtain ⟨n1, n2, n3, ⟨g0, m0, t0, r0, e0, l0⟩, ⟨g1, m1, t1, r1, e1, l1⟩, ⟨cr, c1, c2, c3⟩, ⟨b, b1, b2, b3⟩, -, ⟨m, s1, s2, s3, s4⟩⟩ := h3
  have hz := h2.2.1
  have hc := h2.2.2.2.2.1
  have hz2 := h2.2.2.2.1
  refine ⟨z, cc, kd, on, ot, fun i => (σ.1 23 i).toNatClampNeg, b, g0, m0, g1, m1, cr, m, ⟨h2, fun i hi => ?_, b1, b2, b3⟩, ⟨t0, t1, r0, r1, e0, e1, l0, l1⟩, ⟨by omega, fun q => by have := hz2 q; omega, c2, c3⟩, ⟨s1, s2, s3, s4⟩, n3⟩
  obtain ⟨u, u1, u2⟩ := n2 i hi
  show (σ.1 23 i).toNatClampNeg < 12 ∧ σ.1 7 i = nI (σ.1 23 i).toNatClampNeg ∧ σ.1 23 i = nI (σ.1 23 i).toNatClampNeg
  rw [n1 i (by omega), u2, q_cl (by omega)]
  exact ⟨u1, rfl, rfl⟩
/-! scratch of the reference alone: no long changes -/
def SM (σ τ : ST) : Prop := SE σ τ ∧ τ.2 = σ.2
theorem SM.rf (σ : ST) : SM σ σ := ⟨SE.rf σ, rfl⟩
theorem SM.tr {σ τ υ : ST} (h : SM σ τ) (k : SM τ υ) : SM σ υ := ⟨h.1.tr k.1, k.2.trans h.2⟩
theorem SM.uA (σ : ST) (o : Nat) (f : Nat → Int32) (h : o = 12 ∨ o = 27 ∨ o = 28 ∨ o = 29 ∨ o = 30 ∨ o = 31 ∨ o = 32 ∨ o = 34) : SM σ (uA σ o f) := ⟨SE.uA σ o f h, rfl⟩
theorem SM.u20 (σ : ST) (k : Nat) (x : Int32) (h : k = 22 ∨ k = 26) : SM σ (uI σ 20 k x) := ⟨⟨fun o _ _ h20 _ _ _ _ _ _ _ => va_up_ne _ _ h20, fun j h1 h2 => by
  show (uI σ 20 k x).1 20 j = σ.1 20 j
  rw [uI_s, va_up_ne _ _ (by omega)], fun _ _ _ _ => rfl, rfl⟩, rfl⟩
theorem SM.vw {σ τ : ST} {z c b : Nat} {kd on ot tn : Nat → Nat} (h : SM σ τ) (v : VW σ z c kd on ot tn b) : VW τ z c kd on ot tn b := h.1.vw v
theorem SM.sg {σ τ : ST} {m : Nat} (h : SM σ τ) (v : SG σ m) : SG τ m := h.1.sg v
theorem SM.tu {σ τ : ST} {g0 g1 : Nat → Nat} {n0 n1 : Nat} (h : SM σ τ) (v : TU σ g0 n0 g1 n1) : TU τ g0 n0 g1 n1 := h.1.tu v
theorem SM.cr {σ τ : ST} {z c cr : Nat} (h : SM σ τ) (v : CR σ z c cr) : CR τ z c cr := h.1.cr v
theorem SM.inv {t : Nat} {σ τ : ST} (h : SM σ τ) (hI : Inv t σ) : Inv t τ := h.1.inv hI
theorem SM.e {σ τ : ST} (h : SM σ τ) : (∀ o, o ∈ [0, 1, 2, 4, 6, 7, 8, 9, 10, 11, 14, 15, 16, 17, 18, 19, 21, 22, 23, 24, 25, 26, 33, 35, 36, 37, 38, 39] → τ.1 o = σ.1 o) ∧ (∀ k, k ∈ [1, 2, 3, 4, 5, 6, 7, 13, 14, 20, 23, 27, 28, 29, 30, 31, 32, 33] → τ.1 20 k = σ.1 20 k) ∧ τ.2.1 6 = σ.2.1 6 ∧ τ.2.2 = σ.2.2 := h.1.e
