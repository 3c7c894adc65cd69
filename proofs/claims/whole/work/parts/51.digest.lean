/-! digest() -/
def hm (h : Int64) (x : Int32) : Int64 := 31 * h + x.toInt64
def hL (val : Nat → Int32) (j m : Nat) (h : Int64) : Int64 := itr (fun i a => hm a (val i)) j m h
theorem mix_X (h : Int64) (x : Int32) : f_X10_mix h x = some (hm h x) := rfl
theorem SE.l20 (σ : ST) (k : Nat) (x : Int64) : SE σ (uL σ 20 k x) := ⟨fun _ _ _ _ _ _ _ _ _ _ _ => rfl, fun _ _ _ => rfl, fun o _ _ h => va_up_ne _ _ h, rfl⟩
/-- the reference's scratch, and what it has said so far -/
def DH (σ : ST) (h : Int64) (τ : ST) : Prop := SE σ τ ∧ τ.2.1 20 39 = h
theorem DH.say {σ τ : ST} {h : Int64} (d : DH σ h τ) (x : Int32) : ∃ τ', DH σ (hm h x) τ' ∧ f_X11_say x.toInt64 τ = some τ' := by
  refine ⟨uL τ 20 39 (hm h x), ⟨d.1.tr (SE.l20 τ 39 _), by rw [uL_s, va_up_self]⟩, ?_⟩
  rw [f_X11_say, d.2, o_bs]
  rfl
theorem DH.sm {σ τ τ' : ST} {h : Int64} (d : DH σ h τ) (s : SM τ τ') : DH σ h τ' := ⟨d.1.tr s.1, by rw [s.2]; exact d.2⟩
theorem loopD {γ : Type} (L : Nat → Int32 → ST → γ) (N : Nat) (σ : ST) (step : Nat → Int64 → Int64) (E : ST → γ)
    (hs : ∀ f j h τ, j < N → DH σ h τ → ∃ τ', DH σ (step j h) τ' ∧ L (f + 1) (nI j) τ = L f (nI (j + 1)) τ') (he : ∀ f h τ, DH σ h τ → L (f + 1) (nI N) τ = E τ) :
    ∀ m j h fu τ, j + m = N → m < fu → DH σ h τ → ∃ τ', DH σ (itr step j m h) τ' ∧ L fu (nI j) τ = E τ' := by
  intro m
  induction m with
  | zero =>
    intro j h fu τ h1 h2 h3
    obtain ⟨f, rfl⟩ : ∃ f, fu = f + 1 := ⟨fu - 1, by omega⟩
    have : j = N := by omega
    subst this
    exact ⟨τ, h3, he f h τ h3⟩
  | succ m ih =>
    intro j h fu τ h1 h2 h3
    obtain ⟨f, rfl⟩ : ∃ f, fu = f + 1 := ⟨fu - 1, by omega⟩
    obtain ⟨τ1, a1, a2⟩ := hs f j h τ (by omega) h3
    obtain ⟨τ2, b1, b2⟩ := ih (j + 1) (step j h) f τ1 (by omega) (by omega) a1
    exact ⟨τ2, b1, by rw [a2, b2]⟩
theorem SE.pl {σ τ : ST} {pn : Nat} {l : Nat → Nat} (h : SE σ τ) (p : PL σ pn l) : PL τ pn l := by
  obtain ⟨e, e2, -, -⟩ := h.e
  unfold PL at p ⊢
  rw [e 1 (by decide), e 2 (by decide), e 21 (by decide), e2 1 (by decide)]
  exact p
theorem SE.cnt {σ τ : ST} (h : SE σ τ) (kd on ot : Nat → Nat) (b : Nat) (g0 : Nat → Nat) (n0 n1 z cr : Nat) (p : Int32) : cntV τ kd on ot b g0 n0 n1 z cr p = cntV σ kd on ot b g0 n0 n1 z cr p := by
  obtain ⟨e, e2, -, -⟩ := h.e
  unfold cntV
  rw [e2 2 (by decide), e2 6 (by decide), e2 23 (by decide), e2 1 (by decide), e2 7 (by decide), e2 20 (by decide)]
/-- all that digest reads -/
def AL (σ : ST) (z c : Nat) (kd on ot tn : Nat → Nat) (b : Nat) (g0 : Nat → Nat) (n0 : Nat) (g1 : Nat → Nat) (n1 cr m pn : Nat) (l : Nat → Nat) : Prop := VW σ z c kd on ot tn b ∧ TU σ g0 n0 g1 n1 ∧ CR σ z c cr ∧ SG σ m ∧ NB σ ∧ PL σ pn l
theorem SE.al {σ τ : ST} {z c b n0 n1 cr m pn : Nat} {kd on ot tn g0 g1 l : Nat → Nat} (h : SE σ τ) (a : AL σ z c kd on ot tn b g0 n0 g1 n1 cr m pn l) : AL τ z c kd on ot tn b g0 n0 g1 n1 cr m pn l := ⟨h.vw a.1, h.tu a.2.1, h.cr a.2.2.1, h.sg a.2.2.2.1, h.nb a.2.2.2.2.1, h.pl a.2.2.2.2.2⟩
/-! its end: THE PAGE, the counts -/
theorem tail_X {σ τ : ST} {z c b n0 n1 cr m pn : Nat} {kd on ot tn g0 g1 l : Nat → Nat} (al : AL σ z c kd on ot tn b g0 n0 g1 n1 cr m pn l) (hS : SE σ τ) (h : Int64) : f_X10_digest_B132 h τ = some (hL (fun w => cntV σ kd on ot b g0 n0 n1 z cr (nI w)) 0 13 (hL (fun p => nI (l p)) 0 pn h), τ) := by
  obtain ⟨v, tu, hc, sg, nb, pl⟩ := hS.al al
  have p44 := pl.1
  rw [f_X10_digest_B132]
  have kk := loopN (α := Int64) (fun fu i a => f_X10_digest_L134 fu a i τ) pn (fun _ _ => True) (fun p a => hm a (nI (l p))) (fun a => f_X10_digest_B164 a τ)
    (fun f j a hj _ => by
      show f_X10_digest_L134 (f + 1) a (nI j) τ = _
      rw [f_X10_digest_L134, pl.2.1, if_neg (nI_ge hj (by omega)), at_P pl hj, o_bs, mix_X, o_bs, o_bs, nI_1])
    (fun _ _ _ _ => trivial)
    (fun f a _ => by
      show f_X10_digest_L134 (f + 1) a (nI pn) τ = _
      rw [f_X10_digest_L134, pl.2.1, if_pos (nI_le (Nat.le_refl pn) (by omega))])
  rw [show (0 : Int32) = nI 0 from rfl, kk pn 0 h fuel (by omega) (by rw [fuel_eq]; omega) trivial, f_X10_digest_B164]
  have k2 := loopN (α := Int64) (fun fu i a => f_X10_digest_L166 fu a i τ) 13 (fun _ _ => True) (fun w a => hm a (cntV σ kd on ot b g0 n0 n1 z cr (nI w))) (fun a => some (a, τ))
    (fun f j a hj _ => by
      show f_X10_digest_L166 (f + 1) a (nI j) τ = _
      rw [f_X10_digest_L166, if_neg (show ¬ (12 : Int32) < nI j from nI_nlt (a := 12) (b := j) (by omega) (by decide)), count_X v tu hc sg nb, o_bs, mix_X, o_bs, o_bs, nI_1, hS.cnt])
    (fun _ _ _ _ => trivial)
    (fun f a _ => by
      show f_X10_digest_L166 (f + 1) a (nI 13) τ = _
      rw [f_X10_digest_L166, if_pos (by decide)])
  exact k2 13 0 _ fuel (by decide) (by rw [fuel_eq]; omega) trivial
theorem tail_M {σ τ : ST} {z c b n0 n1 cr m pn : Nat} {kd on ot tn g0 g1 l : Nat → Nat} (al : AL σ z c kd on ot tn b g0 n0 g1 n1 cr m pn l) {h : Int64} (hD : DH σ h τ) : ∃ τ', SE σ τ' ∧ f_X11_digest_B145 τ = some (hL (fun w => cntV σ kd on ot b g0 n0 n1 z cr (nI w)) 0 13 (hL (fun p => nI (l p)) 0 pn h), τ') := by
  have p44 := al.2.2.2.2.2.1
  rw [f_X11_digest_B145]
  obtain ⟨τ1, a1, a2⟩ := loopD (fun fu i τ => f_X11_digest_L147 fu i τ) pn σ (fun p a => hm a (nI (l p))) (fun τ => f_X11_digest_B172 τ) (fun f j h τ hj d => by
    obtain ⟨v, tu, hc, sg, nb, pl⟩ := d.1.al al
    obtain ⟨τ', d1, d2⟩ := d.say (nI (l j))
    refine ⟨τ', d1, ?_⟩
    show f_X11_digest_L147 (f + 1) (nI j) τ = _
    rw [f_X11_digest_L147, pl.2.2.1, if_neg (nI_ge hj (by omega)), if_pos (by rw [q_in (by omega)]; omega), q_cl (by omega), (pl.2.2.2 j hj).2.2.2, d2, o_bs, o_bs, nI_1]) (fun f h τ d => by
    obtain ⟨v, tu, hc, sg, nb, pl⟩ := d.1.al al
    show f_X11_digest_L147 (f + 1) (nI pn) τ = _
    rw [f_X11_digest_L147, pl.2.2.1, if_pos (nI_le (Nat.le_refl pn) (by omega))]) pn 0 h fuel τ (by omega) (by rw [fuel_eq]; omega) hD
  obtain ⟨τ2, b1, b2⟩ := loopD (fun fu i τ => f_X11_digest_L174 fu i τ) 13 σ (fun w a => hm a (cntV σ kd on ot b g0 n0 n1 z cr (nI w))) (fun τ => some (τ.2.1 20 39, τ)) (fun f j h τ hj d => by
    obtain ⟨v, tu, hc, sg, nb, pl⟩ := d.1.al al
    obtain ⟨τ', d1, d2⟩ := d.say (cntV σ kd on ot b g0 n0 n1 z cr (nI j))
    refine ⟨τ', d1, ?_⟩
    show f_X11_digest_L174 (f + 1) (nI j) τ = _
    rw [f_X11_digest_L174, if_neg (show ¬ (13 : Int32) ≤ nI j from nI_ge (a := j) (b := 13) hj (by decide)), count_M (m := m) v tu hc, o_bs, d.1.cnt, d2, o_bs, o_bs, nI_1]) (fun f h τ d => by
    show f_X11_digest_L174 (f + 1) (nI 13) τ = _
    rw [f_X11_digest_L174, if_pos (by decide)]) 13 0 _ fuel τ1 (by decide) (by rw [fuel_eq]; omega) a1
  refine ⟨τ2, b1.1, ?_⟩
  rw [show (0 : Int32) = nI 0 from rfl]
  refine Eq.trans a2 ?_
  show f_X11_digest_B172 τ1 = _
  rw [f_X11_digest_B172, show (0 : Int32) = nI 0 from rfl]
  refine Eq.trans b2 ?_
  show some (τ2.2.1 20 39, τ2) = _
  rw [b1.2]
  rfl
/-! BECOME and NEAR -/
noncomputable def hB (kd on ot tn : Nat → Nat) (b : Nat) (g0 : Nat → Nat) (n0 : Nat) (g1 : Nat → Nat) (n1 cr z : Nat) (h : Int64) : Int64 := if z = 0 ∨ n0 = 0 ∨ n1 = 0 then h else hm (hm h (nI (beV kd on ot tn b n0 z 2 g0 cr))) (nrV kd on ot tn b g0 n0 g1 n1 cr z)
theorem mid_X {σ : ST} {z c b n0 n1 cr m pn : Nat} {kd on ot tn g0 g1 l : Nat → Nat} (al : AL σ z c kd on ot tn b g0 n0 g1 n1 cr m pn l) (h : Int64) : ∃ τ, SE σ τ ∧ f_X10_digest_B99 h σ = some (hL (fun w => cntV σ kd on ot b g0 n0 n1 z cr (nI w)) 0 13 (hL (fun p => nI (l p)) 0 pn (hB kd on ot tn b g0 n0 g1 n1 cr z h)), τ) := by
  obtain ⟨v, tu, hc, sg, nb, pl⟩ := al
  have al : AL σ z c kd on ot tn b g0 n0 g1 n1 cr m pn l := ⟨v, tu, hc, sg, nb, pl⟩
  have l2 := (lacks_V v).2
  have b2 := (both_V tu).2
  rw [f_X10_digest_B99, l2, o_bs]
  by_cases q : z = 0
  · refine ⟨σ, SE.rf σ, ?_⟩
    rw [if_pos q, if_neg (by decide), tail_X al (SE.rf σ), hB, if_pos (Or.inl q)]
  · rw [if_neg q, if_pos rfl, b2, o_bs]
    by_cases q2 : n0 = 0 ∨ n1 = 0
    · refine ⟨σ, SE.rf σ, ?_⟩
      rw [if_pos q2, if_neg (by decide), tail_X al (SE.rf σ), hB, if_pos (Or.inr q2)]
    · have q0 : n0 ≠ 0 := fun w => q2 (Or.inl w)
      obtain ⟨τ, k1, k2⟩ := become_X (d := 2) v tu hc q0 (by decide)
      have l2' := (lacks_V (k1.vw v)).2
      have b2' := (both_V (k1.tu tu)).2
      rw [if_neg q] at l2 l2'
      rw [if_neg q2] at b2'
      have eb : f_X10_become 2 σ = some (nI (beV kd on ot tn b n0 z 2 g0 cr), τ) := by
        rw [f_X10_become, if_neg (by decide), if_pos (by decide), l2, o_bs, if_pos rfl, tu.2.2.2.2.2.2.1, if_neg (fun w => q0 ((enc_ne0 tu.1).mp w)), show (2 : Int32) = nI 2 from rfl, k2, o_b2s]
      have en : f_X10_near τ = some (nrV kd on ot tn b g0 n0 g1 n1 cr z) := by
        rw [f_X10_near, l2', o_bs, if_pos rfl, b2', o_bs, if_pos rfl, near_X (k1.vw v) (k1.tu tu) (k1.cr hc), o_bs]
      refine ⟨τ, k1, ?_⟩
      rw [if_neg q2, if_pos rfl, eb, o_b2s, mix_X, o_bs, en, o_bs, mix_X, o_bs, tail_X al k1, hB, if_neg (fun w => w.elim q q2)]
theorem mid_M {σ τ : ST} {z c b n0 n1 cr m pn : Nat} {kd on ot tn g0 g1 l : Nat → Nat} (al : AL σ z c kd on ot tn b g0 n0 g1 n1 cr m pn l) {h : Int64} (hD : DH σ h τ) : ∃ τ', SE σ τ' ∧ f_X11_digest_B112 τ = some (hL (fun w => cntV σ kd on ot b g0 n0 n1 z cr (nI w)) 0 13 (hL (fun p => nI (l p)) 0 pn (hB kd on ot tn b g0 n0 g1 n1 cr z h)), τ') := by
  obtain ⟨v, tu, hc, sg, nb, pl⟩ := hD.1.al al
  have l1 := (lacks_V v).1
  have b1 := (both_V tu).1
  rw [f_X11_digest_B112, l1, o_bs]
  by_cases q : z = 0
  · rw [if_pos q, if_neg (by decide), hB, if_pos (Or.inl q)]
    exact tail_M al hD
  · rw [if_neg q, if_pos rfl, b1, o_bs]
    by_cases q2 : n0 = 0 ∨ n1 = 0
    · rw [if_pos q2, if_pos rfl, hB, if_pos (Or.inr q2)]
      exact tail_M al hD
    · have q0 : n0 ≠ 0 := fun w => q2 (Or.inl w)
      obtain ⟨τ1, k1, k2⟩ := become_M (d := 2) v tu hc q0 (by decide)
      obtain ⟨τ2, d1, d2⟩ := (hD.sm k1).say (nI (beV kd on ot tn b n0 z 2 g0 cr))
      obtain ⟨v2, tu2, hc2, -, -, -⟩ := d1.1.al al
      obtain ⟨τ3, j1, j2⟩ := near_M v2 tu2 hc2 q0
      obtain ⟨τ4, f1, f2⟩ := (d1.sm j1).say (nrV kd on ot tn b g0 n0 g1 n1 cr z)
      rw [if_neg q2, if_neg (by decide), show (2 : Int32) = nI 2 from rfl, k2, o_b2s, d2, o_bs, j2, o_b2s, f2, o_bs, hB, if_neg (fun w => w.elim q q2)]
      exact tail_M al f1
/-! tunes -/
def hT (g : Nat → Nat) (n : Nat) (h : Int64) : Int64 := if n = 0 then h else hL (fun w => toldV g n (nI w)) 10 8 (hL (fun w => toldV g n (nI w)) 0 5 h)
theorem dTune_X {σ : ST} {g : Nat → Nat} {n : Nat} {W : Int32} (h : TN g n) (e : f_X3_tuneOf σ W = some (enc g n)) (a : Int64) : f_X10_digestTune σ a W = some (hT g n a) := by
  rw [f_X10_digestTune, e, o_bs, hT, q_if (enc_ne0 h)]
  by_cases q : n = 0
  · rw [if_pos q, if_pos q]
  · rw [if_neg q, if_neg q]
    have kk := loopN (α := Int64) (fun fu i a => f_X10_digestTune_L21 σ fu W a i) 5 (fun _ _ => True) (fun w a => hm a (toldV g n (nI w))) (fun a => f_X10_digestTune_B47 σ W a)
      (fun f j a hj _ => by
        show f_X10_digestTune_L21 σ (f + 1) W a (nI j) = _
        rw [f_X10_digestTune_L21, if_neg (show ¬ (4 : Int32) < nI j from nI_nlt (a := 4) (b := j) (by omega) (by decide)), told_X h q e, o_bs, mix_X, o_bs, o_bs, nI_1])
      (fun _ _ _ _ => trivial)
      (fun f a _ => by
        show f_X10_digestTune_L21 σ (f + 1) W a (nI 5) = _
        rw [f_X10_digestTune_L21, if_pos (by decide)])
    rw [show (0 : Int32) = nI 0 from rfl, kk 5 0 a fuel (by decide) (by rw [fuel_eq]; omega) trivial, f_X10_digestTune_B47]
    have k2 := loopN (α := Int64) (fun fu i a => f_X10_digestTune_L51 σ fu W a i) 18 (fun _ _ => True) (fun w a => hm a (toldV g n (nI w))) (fun a => some a)
      (fun f j a hj _ => by
        show f_X10_digestTune_L51 σ (f + 1) W a (nI j) = _
        rw [f_X10_digestTune_L51, if_neg (show ¬ (18 : Int32) ≤ nI j from nI_ge (a := j) (b := 18) hj (by decide)), told_X h q e, o_bs, mix_X, o_bs, o_bs, nI_1])
      (fun _ _ _ _ => trivial)
      (fun f a _ => by
        show f_X10_digestTune_L51 σ (f + 1) W a (nI 18) = _
        rw [f_X10_digestTune_L51, if_pos (by decide)])
    exact k2 8 10 _ fuel (by decide) (by rw [fuel_eq]; omega) trivial
def hTs (g : Nat → Nat) (n j : Nat) (h : Int64) : Int64 := if j < 5 ∨ 9 < j then hm h (toldV g n (nI j)) else h
theorem hTs_T (g : Nat → Nat) (n : Nat) (hn : n ≠ 0) (h : Int64) : itr (hTs g n) 0 18 h = hT g n h := by
  rw [hT, if_neg hn, show (18 : Nat) = 5 + (5 + 8) from rfl, itr_add, itr_add]
  have e1 : itr (hTs g n) 0 5 h = hL (fun w => toldV g n (nI w)) 0 5 h := itr_congr 5 0 h (fun i a _ hi => by rw [hTs, if_pos (Or.inl (by omega))])
  have e2 : ∀ a, itr (hTs g n) (0 + 5) 5 a = a := fun a => itr_same 5 5 a (fun i a h1 h2 => by rw [hTs, if_neg (by omega)])
  have e3 : ∀ a, itr (hTs g n) (0 + 5 + 5) 8 a = hL (fun w => toldV g n (nI w)) 10 8 a := fun a => itr_congr 8 10 a (fun i a h1 _ => by rw [hTs, if_pos (Or.inr (by omega))])
  rw [e1, e2, e3]
theorem sayTune_M {σ τ : ST} {w : Nat} {g : Nat → Nat} {n : Nat} (hw : w < 2) (ht : ∀ τ, SE σ τ → TM τ w g n) (hn : n ≠ 0) {h : Int64} (hD : DH σ h τ) : ∃ τ', DH σ (hT g n h) τ' ∧ f_X11_sayTune (nI w) τ = some τ' := by
  rw [f_X11_sayTune, ← hTs_T g n hn]
  refine loopD (fun fu i τ => f_X11_sayTune_L2 fu (nI w) i τ) 18 σ (hTs g n) (fun τ => some τ) (fun f j h τ hj d => ?_) (fun f h τ d => ?_) 18 0 h fuel τ (by decide) (by rw [fuel_eq]; omega) hD
  · show ∃ τ', DH σ (hTs g n j h) τ' ∧ f_X11_sayTune_L2 (f + 1) (nI w) (nI j) τ = f_X11_sayTune_L2 f (nI w) (nI (j + 1)) τ'
    obtain ⟨τ', d1, d2⟩ := d.say (toldV g n (nI j))
    have eB : f_X11_sayTune_B19 (f_X11_sayTune_L2 f) (nI w) (nI j) τ = f_X11_sayTune_L2 f (nI w) (nI (j + 1)) τ' := by
      rw [f_X11_sayTune_B19, tell_M hw (ht τ d.1), o_bs, d2, o_bs, o_bs, nI_1]
    rw [f_X11_sayTune_L2, if_neg (show ¬ (18 : Int32) ≤ nI j from nI_ge (a := j) (b := 18) hj (by decide)), q_if (show nI j < 5 ↔ j < 5 from nI_ltI (b := 5) (by omega) (by decide)), q_if (show nI j ≤ 9 ↔ j ≤ 9 from nI_leI (b := 9) (by omega) (by decide)), eB, hTs]
    by_cases q : j < 5
    · rw [if_pos q, if_pos (Or.inl q)]
      exact ⟨τ', d1, rfl⟩
    · rw [if_neg q]
      by_cases q2 : j ≤ 9
      · rw [if_pos q2, if_neg (by omega), o_bs, nI_1]
        exact ⟨τ, d, rfl⟩
      · rw [if_neg q2, if_pos (by omega)]
        exact ⟨τ', d1, rfl⟩
  · show f_X11_sayTune_L2 (f + 1) (nI w) (nI 18) τ = some τ
    rw [f_X11_sayTune_L2, if_pos (by decide)]
theorem tunes_X {σ : ST} {z c b n0 n1 cr m pn : Nat} {kd on ot tn g0 g1 l : Nat → Nat} (al : AL σ z c kd on ot tn b g0 n0 g1 n1 cr m pn l) (h : Int64) : f_X10_digest_B79 h σ = f_X10_digest_B99 (hT g1 n1 (hT g0 n0 h)) σ := by
  obtain ⟨t0, t1, r0, r1, e0, e1, l0, l1⟩ := al.2.1
  have w0 : f_X3_tuneOf σ 0 = some (enc g0 n0) := by rw [f_X3_tuneOf, if_pos rfl, l0]
  have w1 : f_X3_tuneOf σ 1 = some (enc g1 n1) := by rw [f_X3_tuneOf, if_neg (by decide), if_pos rfl, l1]
  have hf : fuel = (fuel - 3) + 1 + 1 + 1 := by rw [fuel_eq]
  rw [f_X10_digest_B79, hf, f_X10_digest_L81, if_neg (by decide), dTune_X t0 w0, o_bs, o_bs, show (0 + 1 : Int32) = 1 from rfl, f_X10_digest_L81, if_neg (by decide), dTune_X t1 w1, o_bs, o_bs, f_X10_digest_L81, if_pos (by decide)]
theorem tunes_M {σ τ : ST} {z c b n0 n1 cr m pn : Nat} {kd on ot tn g0 g1 l : Nat → Nat} (al : AL σ z c kd on ot tn b g0 n0 g1 n1 cr m pn l) {h : Int64} (hD : DH σ h τ) : ∃ τ', DH σ (hT g1 n1 (hT g0 n0 h)) τ' ∧ f_X11_digest_B86 τ = f_X11_digest_B112 τ' := by
  have m0 : ∀ τ, SE σ τ → TM τ 0 g0 n0 := fun τ hS => by
    obtain ⟨t0, t1, r0, r1, e0, e1, l0, l1⟩ := (hS.al al).2.1
    exact ⟨t0, r0, e0⟩
  have m1 : ∀ τ, SE σ τ → TM τ 1 g1 n1 := fun τ hS => by
    obtain ⟨t0, t1, r0, r1, e0, e1, l0, l1⟩ := (hS.al al).2.1
    exact ⟨t1, r1, e1⟩
  have one : ∀ (w : Nat) (g : Nat → Nat) (n f : Nat) (h : Int64) (τ : ST), w < 2 → (∀ τ, SE σ τ → TM τ w g n) → DH σ h τ → ∃ τ', DH σ (hT g n h) τ' ∧ f_X11_digest_L88 (f + 1) (nI w) τ = f_X11_digest_L88 f (nI (w + 1)) τ' := fun w g n f h τ hw ht d => by
    have ei := isTune_M hw (ht τ d.1)
    rw [f_X11_digest_L88, if_neg (show ¬ (2 : Int32) ≤ nI w from nI_ge (a := w) (b := 2) hw (by decide)), ei, o_bs]
    by_cases q : n = 0
    · rw [if_pos q, if_pos rfl, o_bs, nI_1, hT, if_pos q]
      exact ⟨τ, d, rfl⟩
    · obtain ⟨τ', d1, d2⟩ := sayTune_M hw ht q d
      rw [if_neg q, if_neg (by decide), d2, o_bs, o_bs, nI_1]
      exact ⟨τ', d1, rfl⟩
  have hf : fuel = (fuel - 3) + 1 + 1 + 1 := by rw [fuel_eq]
  obtain ⟨τ1, a1, a2⟩ := one 0 g0 n0 ((fuel - 3) + 1 + 1) h τ (by decide) m0 hD
  obtain ⟨τ2, b1, b2⟩ := one 1 g1 n1 ((fuel - 3) + 1) _ τ1 (by decide) m1 a1
  refine ⟨τ2, b1, ?_⟩
  rw [f_X11_digest_B86, hf, show (0 : Int32) = nI 0 from rfl, a2, b2, f_X11_digest_L88, if_pos (by decide)]
/-! streets -/
def hSt (kd on ot tn : Nat → Nat) (g0 : Nat → Nat) (n0 : Nat) (f W : Nat → Int32) (m s : Nat) (h : Int64) : Int64 := hL (fun x => nI (co (kd s) (tn s) x)) 0 12 (hL (fun w => stV kd on ot tn g0 n0 f m s (W s) (nI w)) 0 9 h)
theorem comes_V {σ : ST} {z c b s x : Nat} {kd on ot tn : Nat → Nat} (v : VW σ z c kd on ot tn b) (hs : s < z) (hx : x < 12) : f_X10_comes σ (nI s) (nI x) = some (nI (co (kd s) (tn s) x)) := by
  have hw := v.row hs
  obtain ⟨a, ea, st⟩ := at_V v hs
  have en : f_X10_isNote (nI x) = some 1 := by
    rw [f_X10_isNote, if_neg (nI_pos (by omega)), if_neg (show ¬ (12 : Int32) ≤ nI x from nI_ge (a := x) (b := 12) hx (by decide))]
  rw [f_X10_comes, ea, o_bs]
  show ((f_X10_isNote (nI x)).bind _) = _
  rw [en, o_bs, if_neg (by decide), tonic_V v hs, o_bs, if_pos st.1, alone_X hx (v.2.1 s hs).1 hw.1 st.2.1, o_bs]
theorem streets_X {σ : ST} {z c b n0 n1 cr m pn : Nat} {kd on ot tn g0 g1 l : Nat → Nat} (al : AL σ z c kd on ot tn b g0 n0 g1 n1 cr m pn l) (hw : ∀ i, i < z → σ.1 8 i = σ.1 24 i) : f_X10_digest σ = f_X10_digest_B79 (itr (hSt kd on ot tn g0 n0 (σ.1 33) (σ.1 24) m) 0 z 1187) σ := by
  obtain ⟨v, tu, hc, sg, nb, pl⟩ := al
  have hz := v.z8
  rw [f_X10_digest]
  have kk := loopN (α := Int64) (fun fu i a => f_X10_digest_L6 fu a i σ) z (fun _ _ => True) (hSt kd on ot tn g0 n0 (σ.1 33) (σ.1 24) m) (fun a => f_X10_digest_B79 a σ)
    (fun f s a hs _ => by
      show f_X10_digest_L6 (f + 1) a (nI s) σ = f_X10_digest_L6 f (hSt kd on ot tn g0 n0 (σ.1 33) (σ.1 24) m s a) (nI (s + 1)) σ
      rw [f_X10_digest_L6, v.xz, if_neg (nI_ge hs (by omega))]
      have k1 := loopN (α := Int64) (fun fu i a => f_X10_digest_L20 (f_X10_digest_L6 f) fu a (nI s) i σ) 9 (fun _ _ => True) (fun w a => hm a (stV kd on ot tn g0 n0 (σ.1 33) m s (σ.1 24 s) (nI w))) (fun a => f_X10_digest_B45 (f_X10_digest_L6 f) a (nI s) σ)
        (fun f' j a hj _ => by
          show f_X10_digest_L20 (f_X10_digest_L6 f) (f' + 1) a (nI s) (nI j) σ = _
          rw [f_X10_digest_L20, if_neg (show ¬ (8 : Int32) < nI j from nI_nlt (a := 8) (b := j) (by omega) (by decide)), street_X v tu sg hs, o_bs, mix_X, o_bs, o_bs, nI_1, hw s hs])
        (fun _ _ _ _ => trivial)
        (fun f' a _ => by
          show f_X10_digest_L20 (f_X10_digest_L6 f) (f' + 1) a (nI s) (nI 9) σ = _
          rw [f_X10_digest_L20, if_pos (by decide)])
      have k2 := loopN (α := Int64) (fun fu i a => f_X10_digest_L48 (f_X10_digest_L6 f) fu a (nI s) i σ) 12 (fun _ _ => True) (fun x a => hm a (nI (co (kd s) (tn s) x))) (fun a => f_X10_digest_L6 f a (nI (s + 1)) σ)
        (fun f' j a hj _ => by
          show f_X10_digest_L48 (f_X10_digest_L6 f) (f' + 1) a (nI s) (nI j) σ = _
          rw [f_X10_digest_L48, if_neg (show ¬ (12 : Int32) ≤ nI j from nI_ge (a := j) (b := 12) hj (by decide)), comes_V v hs hj, o_bs, mix_X, o_bs, o_bs, nI_1])
        (fun _ _ _ _ => trivial)
        (fun f' a _ => by
          show f_X10_digest_L48 (f_X10_digest_L6 f) (f' + 1) a (nI s) (nI 12) σ = _
          rw [f_X10_digest_L48, if_pos (by decide), o_bs, nI_1])
      have e1 := k1 9 0 a fuel (by decide) (by rw [fuel_eq]; omega) trivial
      refine Eq.trans e1 ?_
      show f_X10_digest_B45 (f_X10_digest_L6 f) (hL (fun w => stV kd on ot tn g0 n0 (σ.1 33) m s (σ.1 24 s) (nI w)) 0 9 a) (nI s) σ = _
      rw [f_X10_digest_B45]
      exact k2 12 0 _ fuel (by decide) (by rw [fuel_eq]; omega) trivial)
    (fun _ _ _ _ => trivial)
    (fun f a _ => by
      show f_X10_digest_L6 (f + 1) a (nI z) σ = _
      rw [f_X10_digest_L6, v.xz, if_pos (nI_le (Nat.le_refl z) (by omega))])
  exact kk z 0 1187 fuel (by omega) (by rw [fuel_eq]; omega) trivial
theorem streets_M {σ : ST} {z c b n0 n1 cr m pn : Nat} {kd on ot tn g0 g1 l : Nat → Nat} (al : AL σ z c kd on ot tn b g0 n0 g1 n1 cr m pn l) : ∃ τ', DH σ (itr (hSt kd on ot tn g0 n0 (σ.1 33) (σ.1 24) m) 0 z 1187) τ' ∧ f_X11_digest σ = f_X11_digest_B86 τ' := by
  have hz := al.1.z8
  rw [f_X11_digest, o_bs]
  have d0 : DH σ 1187 (uL σ 20 39 1187) := ⟨SE.l20 σ 39 _, by rw [uL_s, va_up_self]⟩
  refine loopD (fun fu i τ => f_X11_digest_L9 fu i τ) z σ (hSt kd on ot tn g0 n0 (σ.1 33) (σ.1 24) m) (fun τ => f_X11_digest_B86 τ) (fun f s h τ hs d => ?_) (fun f h τ d => ?_) z 0 1187 fuel (uL σ 20 39 1187) (by omega) (by rw [fuel_eq]; omega) d0
  · show ∃ τ', DH σ (hSt kd on ot tn g0 n0 (σ.1 33) (σ.1 24) m s h) τ' ∧ f_X11_digest_L9 (f + 1) (nI s) τ = f_X11_digest_L9 f (nI (s + 1)) τ'
    rw [f_X11_digest_L9, (d.1.al al).1.mz, if_neg (nI_ge hs (by omega))]
    obtain ⟨τ1, a1, a2⟩ := loopD (fun fu i τ => f_X11_digest_L19 (f_X11_digest_L9 f) fu (nI s) i τ) 9 σ (fun w a => hm a (stV kd on ot tn g0 n0 (σ.1 33) m s (σ.1 24 s) (nI w))) (fun τ => f_X11_digest_B42 (f_X11_digest_L9 f) (nI s) τ) (fun f' j h τ hj d => by
      obtain ⟨v, tu, hc, sg, nb, pl⟩ := d.1.al al
      obtain ⟨τa, s1, s2⟩ := tell_S v tu sg hs (nI j)
      rw [d.1.e.1 33 (by decide), d.1.e.1 24 (by decide)] at s2
      obtain ⟨τ', d1, d2⟩ := (d.sm s1).say (stV kd on ot tn g0 n0 (σ.1 33) m s (σ.1 24 s) (nI j))
      refine ⟨τ', d1, ?_⟩
      show f_X11_digest_L19 (f_X11_digest_L9 f) (f' + 1) (nI s) (nI j) τ = _
      rw [f_X11_digest_L19, if_neg (show ¬ (9 : Int32) ≤ nI j from nI_ge (a := j) (b := 9) hj (by decide)), s2, o_b2s, d2, o_bs, o_bs, nI_1]) (fun f' h τ d => by
      show f_X11_digest_L19 (f_X11_digest_L9 f) (f' + 1) (nI s) (nI 9) τ = _
      rw [f_X11_digest_L19, if_pos (by decide)]) 9 0 h fuel τ (by decide) (by rw [fuel_eq]; omega) d
    obtain ⟨τ2, b1, b2⟩ := loopD (fun fu i τ => f_X11_digest_L44 (f_X11_digest_L9 f) fu (nI s) i τ) 12 σ (fun x a => hm a (nI (co (kd s) (tn s) x))) (fun τ => f_X11_digest_L9 f (nI (s + 1)) τ) (fun f' j h τ hj d => by
      obtain ⟨v, tu, hc, sg, nb, pl⟩ := d.1.al al
      have hw := v.row hs
      have ht := v.2.1 s hs
      obtain ⟨r, er⟩ := comesOut_M (σ := τ) (kd := kd s) (t := tn s) (x := j) hj ht.1 hw.1
      obtain ⟨τ', d1, d2⟩ := (d.sm (SM.uA τ 27 r (by decide))).say (nI (co (kd s) (tn s) j))
      refine ⟨τ', d1, ?_⟩
      show f_X11_digest_L44 (f_X11_digest_L9 f) (f' + 1) (nI s) (nI j) τ = _
      rw [f_X11_digest_L44, if_neg (show ¬ (12 : Int32) ≤ nI j from nI_ge (a := j) (b := 12) hj (by decide)), mul3, if_pos (by rw [q_in (by omega)]; omega), if_pos (by rw [q_in (by omega)]; omega), q_cl (by omega), q_cl (by omega), hw.2.2.2.2.1, ht.2.2, er, o_b2s, d2, o_bs, o_bs, nI_1]) (fun f' h τ d => by
      show f_X11_digest_L44 (f_X11_digest_L9 f) (f' + 1) (nI s) (nI 12) τ = _
      rw [f_X11_digest_L44, if_pos (by decide), o_bs, nI_1]) 12 0 _ fuel τ1 (by decide) (by rw [fuel_eq]; omega) a1
    refine ⟨τ2, b1, ?_⟩
    refine Eq.trans a2 ?_
    show f_X11_digest_B42 (f_X11_digest_L9 f) (nI s) τ1 = _
    rw [f_X11_digest_B42]
    exact b2
  · show f_X11_digest_L9 (f + 1) (nI z) τ = f_X11_digest_B86 τ
    rw [f_X11_digest_L9, (d.1.al al).1.mz, if_pos (nI_le (Nat.le_refl z) (by omega))]
theorem sp_digest {t : Nat} {σ : ST} (h : Inv t σ) (a b c : Int32) : SP24 (Inv (t + 1)) σ a b c := by
  obtain ⟨z, cc, kd, on, ot, tn, nb, g0, n0, g1, n1, cr, m, v, tu, hc, sg, hw⟩ := inv_all h
  obtain ⟨pn, l, pl⟩ : ∃ pn l, PL σ pn l := by
    obtain ⟨pn, z, cc, kd, on, ot, rd, wy, h1, h2, h3, h4, h5, h6⟩ := h
    exact ⟨pn, _, pl_of h1⟩
  have al : AL σ z cc kd on ot tn nb g0 n0 g1 n1 cr m pn l := ⟨v, tu, hc, sg, inv_nb h, pl⟩
  obtain ⟨τ, k1, k2⟩ := mid_X al (hT g1 n1 (hT g0 n0 (itr (hSt kd on ot tn g0 n0 (σ.1 33) (σ.1 24) m) 0 z 1187)))
  have alt := k1.al al
  obtain ⟨τ1, a1, a2⟩ := streets_M alt
  obtain ⟨τ2, b1, b2⟩ := tunes_M alt a1
  obtain ⟨τ3, c1, c2⟩ := mid_M alt b1
  refine ⟨_, τ, by rw [streets_X al hw, tunes_X al]; exact k2, τ3, ?_, inv_mono t τ3 (c1.inv (k1.inv h))⟩
  rw [a2, b2, c2, k1.e.1 33 (by decide), k1.e.1 24 (by decide)]
  have ec : (fun w => cntV τ kd on ot nb g0 n0 n1 z cr (nI w)) = fun w => cntV σ kd on ot nb g0 n0 n1 z cr (nI w) := funext fun w => k1.cnt kd on ot nb g0 n0 n1 z cr (nI w)
  rw [ec]
