/-! street(): LEAVES, AGAIN -/
def lvV (k t : Nat) : Int32 := itr (fun x a => if co k t x = x then a ||| j_shl 1 (nI x) else a) 0 12 0
theorem leaves_X {σ : ST} {a k t : Nat} (ht : t < 12) (hk : k < 5) (hK : σ.2.2.2.2.1 a = xk k) : f_X10_leaves a σ (nI t) = some (lvV k t) := by
  rw [f_X10_leaves]
  have kk := loopN (α := Int32) (fun fu v b => f_X10_leaves_L4 a σ fu (nI t) b v) 12 (fun _ _ => True) (fun x b => if co k t x = x then b ||| j_shl 1 (nI x) else b) (fun b => some b)
    (fun f j b hj _ => by
      show f_X10_leaves_L4 a σ (f + 1) (nI t) b (nI j) = _
      have hl := co_lt (kd := k) (t := t) hj
      rw [f_X10_leaves_L4, if_neg (show ¬ (12 : Int32) ≤ nI j from nI_ge (a := j) (b := 12) hj (by decide)), alone_X hj ht hk hK, o_bs, o_bs, o_bs, nI_1, q_if (nI_eq (by omega) (by omega))])
    (fun _ _ _ _ => trivial)
    (fun f b _ => by
      show f_X10_leaves_L4 a σ (f + 1) (nI t) b (nI 12) = _
      rw [f_X10_leaves_L4, if_pos (by decide)])
  exact kk 12 0 0 fuel (by decide) (by rw [fuel_eq]; omega) trivial
theorem leaves_M {σ : ST} {z c b i : Nat} {kd on ot tn : Nat → Nat} (v : VW σ z c kd on ot tn b) (hi : i < z) : ∃ σ', SM σ σ' ∧ f_X11_leavesOf (nI i) σ = some (lvV (kd i) (tn i), σ') := by
  have hz := v.z8
  rw [f_X11_leavesOf]
  refine loopK (α := Int32) (fun fu x a τ => f_X11_leavesOf_L4 fu (nI i) a x τ) 12 (SM σ) (fun _ _ => True) (fun x a => if co (kd i) (tn i) x = x then a ||| j_shl 1 (nI x) else a) (fun a τ => some (a, τ)) (fun f j a τ hj _ hS => ?_) (fun _ _ _ _ => trivial) (fun f a τ _ hS => ?_) 12 0 0 fuel σ (by omega) (by rw [fuel_eq]; omega) trivial (SM.rf σ)
  · show ∃ σ', SM σ σ' ∧ f_X11_leavesOf_L4 (f + 1) (nI i) a (nI j) τ = f_X11_leavesOf_L4 f (nI i) (if co (kd i) (tn i) j = j then a ||| j_shl 1 (nI j) else a) (nI (j + 1)) σ'
    have v' := hS.vw v
    have hw := v'.row hi
    have ht := v'.2.1 i hi
    have hl := co_lt (kd := kd i) (t := tn i) hj
    obtain ⟨r, er⟩ := comesOut_M (σ := τ) (kd := kd i) (t := tn i) (x := j) hj ht.1 hw.1
    refine ⟨uA τ 27 r, hS.tr (SM.uA τ 27 r (by decide)), ?_⟩
    rw [f_X11_leavesOf_L4, if_neg (show ¬ (12 : Int32) ≤ nI j from nI_ge (a := j) (b := 12) hj (by decide)), mul3, if_pos (by rw [q_in (by omega)]; omega), if_pos (by rw [q_in (by omega)]; omega), q_cl (by omega), q_cl (by omega), hw.2.2.2.2.1, ht.2.2, er, o_b2s, o_bs, o_bs, o_bs, nI_1, q_if (nI_eq (by omega) (by omega))]
    by_cases q : co (kd i) (tn i) j = j
    · rw [if_pos q, if_pos q]
    · rw [if_neg q, if_neg q, Int32.or_zero]
  · show ∃ σ', SM σ σ' ∧ f_X11_leavesOf_L4 (f + 1) (nI i) a (nI 12) τ = some (a, σ')
    exact ⟨τ, hS, by rw [f_X11_leavesOf_L4, if_pos (by decide)]⟩
def agV (k t n : Nat) (g : Nat → Nat) : Nat → Nat → (Nat → Nat) → Int32
  | 0, _, _ => -1
  | m + 1, j, g' => if enc (tr k t g' n) n = enc g n then nI j else agV k t n g m (j + 1) (tr k t g' n)
theorem again_X {σ : ST} {a k t n : Nat} {g : Nat → Nat} (ht : t < 12) (hk : k < 5) (hK : σ.2.2.2.2.1 a = xk k) (hl : σ.2.1 6 5 = enc g n) : ∀ m j g' fu, j + m = 25 → m < fu → TN g' n → f_X10_again_L25 a σ fu (nI t) (enc g' n) (nI j) = some (agV k t n g m j g') := by
  intro m
  induction m with
  | zero =>
    intro j g' fu h1 h2 h3
    obtain ⟨f, rfl⟩ : ∃ f, fu = f + 1 := ⟨fu - 1, by omega⟩
    rw [f_X10_again_L25, show j = 25 by omega, if_pos (by decide), agV]
  | succ m ih =>
    intro j g' fu h1 h2 h3
    obtain ⟨f, rfl⟩ : ∃ f, fu = f + 1 := ⟨fu - 1, by omega⟩
    rw [f_X10_again_L25, if_neg (show ¬ (24 : Int32) < nI j from nI_nlt (a := 24) (b := j) (by omega) (by decide)), carry_X h3 ht hk hK, o_bs, hl, agV]
    by_cases q : enc (tr k t g' n) n = enc g n
    · rw [if_pos q, if_pos q]
    · rw [if_neg q, if_neg q, o_bs, nI_1]
      exact ih (j + 1) _ f (by omega) (by omega) (tr_TN h3)
theorem again_M {σ : ST} {z c b i n0 n1 : Nat} {kd on ot tn g0 g1 : Nat → Nat} (v : VW σ z c kd on ot tn b) (tu : TU σ g0 n0 g1 n1) (hi : i < z) (hn : n0 ≠ 0) : ∀ m j g' fu (τ : ST), j + m = 25 → m < fu → TN g' n0 → SM σ τ → RW τ 28 g' n0 → ∃ σ', SM σ σ' ∧ f_X11_againOf_L13 fu (nI i) (nI j) τ = some (agV (kd i) (tn i) n0 g0 m j g', σ') := by
  intro m
  induction m with
  | zero =>
    intro j g' fu τ h1 h2 h3 h4 h5
    obtain ⟨f, rfl⟩ : ∃ f, fu = f + 1 := ⟨fu - 1, by omega⟩
    exact ⟨τ, h4, by rw [f_X11_againOf_L13, show j = 25 by omega, if_pos (by decide), agV]⟩
  | succ m ih =>
    intro j g' fu τ h1 h2 h3 h4 h5
    obtain ⟨f, rfl⟩ : ∃ f, fu = f + 1 := ⟨fu - 1, by omega⟩
    have v' := h4.vw v
    obtain ⟨t0, t1, r0, r1, e0, e1, l0, l1⟩ := h4.tu tu
    have h8 := t0.1
    obtain ⟨τ1, h6⟩ : ∃ τ1, τ1 = uA τ 28 (mx (τ.1 28) (tr (kd i) (tn i) g' n0) n0) := ⟨_, rfl⟩
    have s1 : SM τ τ1 := by rw [h6]; exact SM.uA τ 28 _ (by decide)
    obtain ⟨-, -, r0', r1', e0', -, -, -⟩ := s1.tu ⟨t0, t1, r0, r1, e0, e1, l0, l1⟩
    have r28 : RW τ1 28 (tr (kd i) (tn i) g' n0) n0 := by rw [h6]; exact mx_RW
    obtain ⟨w, w1, w2⟩ := isAs_M (tr_TN (kd := kd i) (t := tn i) h3) t0 r28 r0'
    rw [f_X11_againOf_L13, if_neg (show ¬ (25 : Int32) ≤ nI j from nI_ge (a := j) (b := 25) (by omega) (by decide)), e0, if_neg (nI_nle (by omega) (by omega)), goStreet_M v' hi h3 (by omega) h5, ← h6, o_bs, e0', w1, o_bs, agV]
    rcases w2 with ⟨a1, a2⟩ | ⟨a1, a2⟩
    · rw [a1, if_neg (by decide), if_pos a2]
      exact ⟨τ1, h4.tr s1, rfl⟩
    · rw [a1, if_pos rfl, if_neg a2, o_bs, nI_1]
      exact ih (j + 1) _ f τ1 (by omega) (by omega) (tr_TN h3) (h4.tr s1) r28
def againV (k t n : Nat) (g : Nat → Nat) : Int32 := if n = 0 then -1 else agV k t n g 24 1 g
theorem again_XV {σ : ST} {z c b i a n0 n1 : Nat} {kd on ot tn g0 g1 : Nat → Nat} (v : VW σ z c kd on ot tn b) (tu : TU σ g0 n0 g1 n1) (hi : i < z) (s : STR σ kd on ot i a) : f_X10_again a σ (nI (tn i)) = some (againV (kd i) (tn i) n0 g0) := by
  have hw := v.row hi
  obtain ⟨t0, t1, r0, r1, e0, e1, l0, l1⟩ := tu
  rw [f_X10_again, l0, q_if (enc_ne0 t0), againV]
  by_cases q : n0 = 0
  · rw [if_pos q, if_pos q]
  · rw [if_neg q, if_neg q, o_bs]
    exact again_X (v.2.1 i hi).1 hw.1 s.2.1 l0 24 1 g0 fuel (by decide) (by rw [fuel_eq]; omega) t0
theorem again_MV {σ : ST} {z c b i n0 n1 : Nat} {kd on ot tn g0 g1 : Nat → Nat} (v : VW σ z c kd on ot tn b) (tu : TU σ g0 n0 g1 n1) (hi : i < z) : ∃ σ', SM σ σ' ∧ f_X11_againOf (nI i) σ = some (againV (kd i) (tn i) n0 g0, σ') := by
  have tu' := tu
  obtain ⟨t0, t1, r0, r1, e0, e1, l0, l1⟩ := tu
  have h8 := t0.1
  rw [f_X11_againOf, copy_M (by decide) (by decide) (by decide), o_bs]
  obtain ⟨τ1, h1⟩ : ∃ τ1, τ1 = uA σ 28 (fun k => if k < 8 then σ.1 25 k else σ.1 28 k) := ⟨_, rfl⟩
  rw [← h1]
  have s1 : SM σ τ1 := by rw [h1]; exact SM.uA σ 28 _ (by decide)
  have r28 : RW τ1 28 g0 n0 := fun k hk => by rw [h1, uA_1, if_pos (by omega)]; exact r0 k hk
  obtain ⟨-, -, -, -, e0', -, -, -⟩ := s1.tu tu'
  rw [againV]
  by_cases q : n0 = 0
  · refine ⟨τ1, s1, ?_⟩
    obtain ⟨f, hf⟩ := fuel_s
    rw [hf, f_X11_againOf_L13, if_neg (by decide), e0', q, if_pos (by decide), if_pos rfl]
  · rw [if_neg q]
    exact again_M v tu' hi q 24 1 g0 fuel τ1 (by decide) (by rw [fuel_eq]; omega) t0 s1 r28
/-! TONICS -/
abbrev FT (f : Nat → Int32) (m k i t : Nat) : Prop := ∀ s, s < m → f (3 * s) = nI i → nI (co k t (f (3 * s + 1)).toNatClampNeg) = f (3 * s + 2)
def tnV (f : Nat → Int32) (m k i : Nat) : Int32 := itr (fun t a => if FT f m k i t then a ||| j_shl 1 (nI t) else a) 0 12 0
theorem ft_succ {f : Nat → Int32} {m k i t : Nat} (h : FT f m k i t) (h2 : f (3 * m) = nI i → nI (co k t (f (3 * m + 1)).toNatClampNeg) = f (3 * m + 2)) : FT f (m + 1) k i t := fun s hs => by
  by_cases q : s = m
  · subst q; exact h2
  · exact h s (by omega)
theorem fits_X {σ : ST} {a k i t m : Nat} (sg : SG σ m) (ht : t < 12) (hk : k < 5) (hK : σ.2.2.2.2.1 a = xk k) : ∀ r s fu, s + r = m → r < fu → FT (σ.1 33) s k i t → f_X3_fits_L3 a σ fu (nI i) (nI t) (nI s) = some (if FT (σ.1 33) m k i t then 1 else 0) := by
  obtain ⟨m6, m1, m2, m3⟩ := sg
  intro r
  induction r with
  | zero =>
    intro s fu h1 h2 h3
    obtain ⟨f, rfl⟩ : ∃ f, fu = f + 1 := ⟨fu - 1, by omega⟩
    have : s = m := by omega
    subst this
    rw [f_X3_fits_L3, m1, if_pos (nI_le (Nat.le_refl s) (by omega)), if_pos h3]
  | succ r ih =>
    intro s fu h1 h2 h3
    obtain ⟨f, rfl⟩ : ∃ f, fu = f + 1 := ⟨fu - 1, by omega⟩
    obtain ⟨a1, a2, a3, ⟨x, x1, x2⟩, ⟨y, y1, y2⟩⟩ := m3 s (by omega)
    have i6 : inB (nI s) 6 := by rw [q_in (by omega)]; omega
    have a1' : σ.1 9 (nI s).toNatClampNeg = σ.1 33 (3 * s) := by rw [q_cl (by omega)]; exact a1
    have a2' : σ.1 10 (nI s).toNatClampNeg = σ.1 33 (3 * s + 1) := by rw [q_cl (by omega)]; exact a2
    have a3' : σ.1 11 (nI s).toNatClampNeg = σ.1 33 (3 * s + 2) := by rw [q_cl (by omega)]; exact a3
    rw [f_X3_fits_L3, m1, if_neg (nI_ge (by omega) (by omega)), if_neg (show ¬ (6 : Int32) ≤ nI s from nI_ge (a := s) (b := 6) (by omega) (by decide)), if_pos i6, a1', if_pos i6, a2', x2, alone_X x1 ht hk hK, o_bs, if_pos i6, a3']
    by_cases q : σ.1 33 (3 * s) = nI i
    · rw [if_pos q]
      by_cases q2 : nI (co k t x) = σ.1 33 (3 * s + 2)
      · rw [if_pos q2, o_bs, nI_1]
        exact ih (s + 1) f (by omega) (by omega) (ft_succ h3 (fun _ => by rw [x2, q_cl (by omega)]; exact q2))
      · rw [if_neg q2, if_neg (fun z => q2 (by have := z s (by omega) q; rw [x2, q_cl (by omega)] at this; exact this))]
    · rw [if_neg q, o_bs, nI_1]
      exact ih (s + 1) f (by omega) (by omega) (ft_succ h3 (fun z => absurd z q))
theorem tonics_X {σ : ST} {a k i m : Nat} (sg : SG σ m) (hk : k < 5) (hK : σ.2.2.2.2.1 a = xk k) : f_X10_tonics a σ (nI i) = some (tnV (σ.1 33) m k i) := by
  have m6 := sg.1
  rw [f_X10_tonics]
  have kk := loopN (α := Int32) (fun fu v b => f_X10_tonics_L5 a σ fu (nI i) b v) 12 (fun _ _ => True) (fun t b => if FT (σ.1 33) m k i t then b ||| j_shl 1 (nI t) else b) (fun b => some b)
    (fun f j b hj _ => by
      show f_X10_tonics_L5 a σ (f + 1) (nI i) b (nI j) = _
      have e := fits_X (i := i) sg hj hk hK m 0 fuel (by omega) (by rw [fuel_eq]; omega) (fun s hs => absurd hs (Nat.not_lt_zero s))
      rw [f_X10_tonics_L5, if_neg (show ¬ (12 : Int32) ≤ nI j from nI_ge (a := j) (b := 12) hj (by decide)), f_X3_fits, show (0 : Int32) = nI 0 from rfl, e, o_bs]
      by_cases q : FT (σ.1 33) m k i j
      · rw [if_pos q, if_pos q, if_neg (by decide), o_bs, o_bs, nI_1]
      · rw [if_neg q, if_neg q, if_pos (by decide), o_bs, o_bs, nI_1])
    (fun _ _ _ _ => trivial)
    (fun f b _ => by
      show f_X10_tonics_L5 a σ (f + 1) (nI i) b (nI 12) = _
      rw [f_X10_tonics_L5, if_pos (by decide)])
  exact kk 12 0 0 fuel (by decide) (by rw [fuel_eq]; omega) trivial
theorem tonics_ML {σ : ST} {z c b i m t : Nat} {kd on ot tn : Nat → Nat} (v : VW σ z c kd on ot tn b) (sg : SG σ m) (hi : i < z) (ht : t < 12) (K : Int32 → Int32 → Int32 → ST → Option (Int32 × ST)) (bits : Int32) : ∀ r s fu (τ : ST), s + r = m → r < fu → SM σ τ → ∃ σ', SM σ σ' ∧ f_X11_tonicsOf_L16 K fu (nI i) bits (nI t) (if FT (σ.1 33) s (kd i) i t then 1 else 0) (nI (3 * s)) τ = f_X11_tonicsOf_B90 K (nI i) bits (nI t) (if FT (σ.1 33) m (kd i) i t then 1 else 0) σ' := by
  have m6 := sg.1
  have hz := v.z8
  intro r
  induction r with
  | zero =>
    intro s fu τ h1 h2 h3
    obtain ⟨f, rfl⟩ : ∃ f, fu = f + 1 := ⟨fu - 1, by omega⟩
    have : s = m := by omega
    subst this
    obtain ⟨-, -, m2, -⟩ := h3.sg sg
    exact ⟨τ, h3, by rw [f_X11_tonicsOf_L16, m2, mul3, if_pos (nI_le (Nat.le_refl _) (by omega))]⟩
  | succ r ih =>
    intro s fu τ h1 h2 h3
    obtain ⟨f, rfl⟩ : ∃ f, fu = f + 1 := ⟨fu - 1, by omega⟩
    obtain ⟨-, -, m2, m3⟩ := h3.sg sg
    have v' := h3.vw v
    have hw := v'.row hi
    have e33 : τ.1 33 = σ.1 33 := h3.e.1 33 (by decide)
    obtain ⟨a1, a2, a3, ⟨x, x1, x2⟩, ⟨y, y1, y2⟩⟩ := m3 s (by omega)
    have i18 : ∀ k, k < 18 → inB (nI k) 18 := fun k hk => by rw [q_in (by omega)]; exact hk
    have e3 : nI (3 * s) + 3 = nI (3 * (s + 1)) := nI_add _ 3
    have e1 : nI (3 * s) + 1 = nI (3 * s + 1) := nI_1 _
    have e2 : nI (3 * s) + 2 = nI (3 * s + 2) := nI_add _ 2
    rw [f_X11_tonicsOf_L16, m2, mul3, if_neg (nI_ge (by omega) (by omega)), if_pos (i18 _ (by omega)), q_cl (by omega), e3, e1, e2]
    by_cases q : τ.1 33 (3 * s) = nI i
    · rw [if_pos q]
      by_cases q1 : FT (σ.1 33) s (kd i) i t
      · obtain ⟨rr, er⟩ := comesOut_M (σ := τ) (kd := kd i) (t := t) (x := x) x1 ht hw.1
        have s1 : SM τ (uA τ 27 rr) := SM.uA τ 27 rr (by decide)
        obtain ⟨σ', u1, u2⟩ := ih (s + 1) f (uA τ 27 rr) (by omega) (by omega) (h3.tr s1)
        refine ⟨σ', u1, ?_⟩
        rw [← u2, if_pos q1, if_neg (by decide), mul3, if_pos (by rw [q_in (by omega)]; omega), if_pos (i18 _ (by omega)), q_cl (by omega), q_cl (by omega), hw.2.2.2.2.1, x2, er, o_b2s, if_pos (i18 _ (by omega)), q_cl (by omega), o_bs, o_bs, show (uA τ 27 rr).1 33 = τ.1 33 from rfl]
        have eq : (if nI (co (kd i) t x) = τ.1 33 (3 * s + 2) then (1 : Int32) else 0) = if FT (σ.1 33) (s + 1) (kd i) i t then 1 else 0 := by
          by_cases q2 : nI (co (kd i) t x) = τ.1 33 (3 * s + 2)
          · rw [if_pos q2, if_pos (ft_succ q1 (fun _ => by rw [← e33, x2, q_cl (by omega)]; exact q2))]
          · rw [if_neg q2, if_neg (fun z => q2 (by
              have := z s (by omega) (by rw [← e33]; exact q)
              rw [← e33, x2, q_cl (by omega)] at this; exact this))]
        rw [eq]
      · obtain ⟨σ', u1, u2⟩ := ih (s + 1) f τ (by omega) (by omega) h3
        refine ⟨σ', u1, ?_⟩
        rw [← u2, if_neg q1, if_pos rfl, o_bs, if_neg (fun z => q1 (fun u hu => z u (by omega)))]
    · obtain ⟨σ', u1, u2⟩ := ih (s + 1) f τ (by omega) (by omega) h3
      refine ⟨σ', u1, ?_⟩
      rw [← u2, if_neg q, o_bs]
      by_cases q1 : FT (σ.1 33) s (kd i) i t
      · rw [if_pos q1, if_pos (ft_succ q1 (fun z => absurd (by rw [e33]; exact z) q))]
      · rw [if_neg q1, if_neg (fun z => q1 (fun u hu => z u (by omega)))]
theorem tonics_M {σ : ST} {z c b i m : Nat} {kd on ot tn : Nat → Nat} (v : VW σ z c kd on ot tn b) (sg : SG σ m) (hi : i < z) : ∃ σ', SM σ σ' ∧ f_X11_tonicsOf (nI i) σ = some (tnV (σ.1 33) m (kd i) i, σ') := by
  have m6 := sg.1
  rw [f_X11_tonicsOf]
  refine loopK (α := Int32) (fun fu x a τ => f_X11_tonicsOf_L4 fu (nI i) a x τ) 12 (SM σ) (fun _ _ => True) (fun t a => if FT (σ.1 33) m (kd i) i t then a ||| j_shl 1 (nI t) else a) (fun a τ => some (a, τ)) (fun f j a τ hj _ hS => ?_) (fun _ _ _ _ => trivial) (fun f a τ _ hS => ?_) 12 0 0 fuel σ (by omega) (by rw [fuel_eq]; omega) trivial (SM.rf σ)
  · show ∃ σ', SM σ σ' ∧ f_X11_tonicsOf_L4 (f + 1) (nI i) a (nI j) τ = f_X11_tonicsOf_L4 f (nI i) (if FT (σ.1 33) m (kd i) i j then a ||| j_shl 1 (nI j) else a) (nI (j + 1)) σ'
    obtain ⟨σ', u1, u2⟩ := tonics_ML v sg hi hj (f_X11_tonicsOf_L4 f) a m 0 fuel τ (by omega) (by rw [fuel_eq]; omega) hS
    refine ⟨σ', u1, ?_⟩
    rw [if_pos (show FT (σ.1 33) 0 (kd i) i j from fun s hs => absurd hs (Nat.not_lt_zero s))] at u2
    rw [f_X11_tonicsOf_L4, if_neg (show ¬ (12 : Int32) ≤ nI j from nI_ge (a := j) (b := 12) hj (by decide))]
    refine Eq.trans u2 ?_
    rw [f_X11_tonicsOf_B90]
    by_cases q : FT (σ.1 33) m (kd i) i j
    · rw [if_pos q, if_pos q, if_neg (by decide), o_bs, o_bs, o_bs, nI_1]
    · rw [if_neg q, if_neg q, if_pos rfl, o_bs, o_bs, o_bs, nI_1, Int32.or_zero]
  · show ∃ σ', SM σ σ' ∧ f_X11_tonicsOf_L4 (f + 1) (nI i) a (nI 12) τ = some (a, σ')
    exact ⟨τ, hS, by rw [f_X11_tonicsOf_L4, if_pos (by decide)]⟩
