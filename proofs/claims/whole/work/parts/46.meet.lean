/-! BECOME: the unlike tunes that were met -/
/-- the tunes that were met: which, how many -/
abbrev AC : Type := (Nat → Nat → Nat) × Nat
noncomputable def mtS (n : Nat) (g : Nat → Nat) (a : AC) : AC := @ite _ (∃ k, k < a.2 ∧ enc (a.1 k) n = enc g n) (Classical.propDecidable _) a (va_up a.1 a.2 g, a.2 + 1)
theorem mt_in {n : Nat} {g : Nat → Nat} {a : AC} (h : ∃ k, k < a.2 ∧ enc (a.1 k) n = enc g n) : mtS n g a = a := by rw [mtS, if_pos h]
theorem mt_out {n : Nat} {g : Nat → Nat} {a : AC} (h : ¬ ∃ k, k < a.2 ∧ enc (a.1 k) n = enc g n) : mtS n g a = (va_up a.1 a.2 g, a.2 + 1) := by rw [mtS, if_neg h]
def AOK (n : Nat) (a : AC) : Prop := ∀ k, k < a.2 → TN (a.1 k) n
theorem mt_ok {n : Nat} {g : Nat → Nat} {a : AC} (h : AOK n a) (hg : TN g n) : AOK n (mtS n g a) ∧ (mtS n g a).2 ≤ a.2 + 1 := by
  by_cases q : ∃ k, k < a.2 ∧ enc (a.1 k) n = enc g n
  · rw [mt_in q]; exact ⟨h, by omega⟩
  · rw [mt_out q]
    refine ⟨fun k hk => ?_, Nat.le_refl _⟩
    show TN (va_up a.1 a.2 g k) n
    by_cases e : k = a.2
    · rw [e, va_up_self]; exact hg
    · rw [va_up_ne _ _ e]
      have hk : k < a.2 + 1 := hk
      exact h k (by omega)
/-- a tune as the reference's number -/
def cod (g : Nat → Nat) : Nat → Nat
  | 0 => 0
  | n + 1 => 12 * cod g n + g n
theorem cod_lt {g : Nat → Nat} : ∀ n, (∀ k, k < n → g k < 12) → cod g n < 12 ^ n
  | 0, _ => by show 0 < 1; decide
  | n + 1, h => by
    have h1 := cod_lt n (fun k hk => h k (by omega))
    have h2 := h n (by omega)
    rw [cod, Nat.pow_succ]
    omega
theorem cod_inj {g g' : Nat → Nat} : ∀ n, (∀ k, k < n → g k < 12) → (∀ k, k < n → g' k < 12) → cod g n = cod g' n → ∀ k, k < n → g k = g' k
  | 0, _, _, _, k, hk => absurd hk (Nat.not_lt_zero k)
  | n + 1, h, h', e, k, hk => by
    have h2 := h n (by omega)
    have h2' := h' n (by omega)
    rw [cod, cod] at e
    by_cases q : k = n
    · subst q; omega
    · exact cod_inj n (fun k hk => h k (by omega)) (fun k hk => h' k (by omega)) (by omega) k (by omega)
theorem cod_congr {g g' : Nat → Nat} : ∀ n, (∀ k, k < n → g k = g' k) → cod g n = cod g' n
  | 0, _ => rfl
  | n + 1, h => by rw [cod, cod, h n (by omega), cod_congr n (fun k hk => h k (by omega))]
theorem cod_enc {g g' : Nat → Nat} {n : Nat} (h : TN g n) (h' : TN g' n) : cod g n = cod g' n ↔ enc g n = enc g' n := by
  rw [enc_eq h h']
  constructor
  · exact fun e => ⟨rfl, cod_inj n h.2 h'.2 e⟩
  · exact fun e => cod_congr n e.2
theorem cod_31 {g : Nat → Nat} {n : Nat} (h : TN g n) : cod g n < 2 ^ 31 := by
  have h1 := cod_lt n h.2
  have h2 : 12 ^ n ≤ 12 ^ 8 := Nat.pow_le_pow_right (by decide) h.1
  have h3 : 12 ^ 8 < 2 ^ 31 := by decide
  omega
def MB (n : Nat) (a : AC) (τ : ST) : Prop := τ.1 20 22 = nI a.2 ∧ ∀ k, k < a.2 → τ.1 32 k = nI (cod (a.1 k) n)
theorem MB.cp {n : Nat} {a : AC} {τ τ' : ST} (h : MB n a τ) (e1 : τ'.1 32 = τ.1 32) (e2 : τ'.1 20 = τ.1 20) : MB n a τ' := by
  unfold MB
  rw [e1, e2]; exact h
theorem meetS_M {τ : ST} {s : Nat} {code : Int32} (hs : s ≤ 512) (h : τ.1 20 22 = nI s) : ∀ m k fu, k + m = s → m < fu → (∀ u, u < k → τ.1 32 u ≠ code) → ∃ k', k' ≤ s ∧ f_X11_meet_L37 fu code (nI k) τ = f_X11_meet_B61 code (nI k') τ ∧ ((k' < s ∧ τ.1 32 k' = code) ∨ (k' = s ∧ ∀ u, u < s → τ.1 32 u ≠ code)) := by
  intro m
  induction m with
  | zero =>
    intro k fu h1 h2 h3
    obtain ⟨f, rfl⟩ : ∃ f, fu = f + 1 := ⟨fu - 1, by omega⟩
    have : k = s := by omega
    subst this
    exact ⟨k, Nat.le_refl k, by rw [f_X11_meet_L37, h, if_pos (nI_le (Nat.le_refl k) (by omega))], Or.inr ⟨rfl, h3⟩⟩
  | succ m ih =>
    intro k fu h1 h2 h3
    obtain ⟨f, rfl⟩ : ∃ f, fu = f + 1 := ⟨fu - 1, by omega⟩
    rw [f_X11_meet_L37, h, if_neg (nI_ge (by omega) (by omega)), if_pos (by rw [q_in (by omega)]; omega), q_cl (by omega)]
    by_cases q : τ.1 32 k = code
    · exact ⟨k, by omega, by rw [if_pos q], Or.inl ⟨by omega, q⟩⟩
    · rw [if_neg q, o_bs, nI_1]
      exact ih (k + 1) f (by omega) (by omega) (fun u hu => by
        by_cases e : u = k
        · rw [e]; exact q
        · exact h3 u (by omega))
theorem meetC_M {τ : ST} {j n cr : Nat} {g : Nat → Nat} (hj : j < 6) (hn : n ≤ 8) (l : LV τ j n g cr) (h : τ.1 20 13 = nI n) : f_X11_meet (nI j) τ = f_X11_meet_B35 (nI (cod g n)) τ := by
  rw [f_X11_meet]
  refine loopJ (fun fu m => f_X11_meet_L4 fu (nI j) (nI (cod g m)) (nI m) τ) n _ (fun f m hm => ?_) (fun f => ?_) n 0 fuel (by omega) (by rw [fuel_eq]; omega)
  · show f_X11_meet_L4 (f + 1) (nI j) (nI (cod g m)) (nI m) τ = f_X11_meet_L4 f (nI j) (nI (cod g (m + 1))) (nI (m + 1)) τ
    rw [f_X11_meet_L4, h, if_neg (nI_ge hm (by omega)), mul8, nI_add, if_pos (by rw [q_in (by omega)]; omega), q_cl (by omega), l.1 m hm, show (12 : Int32) * nI (cod g m) = nI (12 * cod g m) from pk_mul 12 _, nI_add, o_bs, o_bs, nI_1]
    rfl
  · show f_X11_meet_L4 (f + 1) (nI j) (nI (cod g n)) (nI n) τ = _
    rw [f_X11_meet_L4, h, if_pos (nI_le (Nat.le_refl n) (by omega))]
theorem meet_M {τ : ST} {j n cr : Nat} {g : Nat → Nat} {a : AC} (hj : j < 6) (hg : TN g n) (l : LV τ j n g cr) (h : τ.1 20 13 = nI n) (hb : MB n a τ) (ha : AOK n a) (h5 : a.2 < 512) : ∃ τ', SM τ τ' ∧ τ'.1 29 = τ.1 29 ∧ τ'.1 30 = τ.1 30 ∧ τ'.1 31 = τ.1 31 ∧ f_X11_meet (nI j) τ = some τ' ∧ MB n (mtS n g a) τ' := by
  obtain ⟨b1, b2⟩ := hb
  have hc := cod_31 hg
  obtain ⟨k, k1, k2, k3⟩ := meetS_M (code := nI (cod g n)) (s := a.2) (by omega) b1 a.2 0 fuel (by omega) (by rw [fuel_eq]; omega) (fun u hu => absurd hu (Nat.not_lt_zero u))
  have i5 : inB (nI k) 512 := by rw [q_in (by omega)]; omega
  have k20 : (uI τ 32 k (nI (cod g n))).1 20 22 = nI a.2 := b1
  refine ⟨uI (uI τ 32 k (nI (cod g n))) 20 22 (if k = a.2 then nI (k + 1) else nI a.2), (SM.uA τ 32 _ (by decide)).tr (SM.u20 _ 22 _ (Or.inl rfl)), rfl, rfl, rfl, ?_, ?_⟩
  · rw [meetC_M hj hg.1 l h, f_X11_meet_B35, show (0 : Int32) = nI 0 from rfl, k2, f_X11_meet_B61, if_pos i5, q_cl (by omega), o_bs, k20, nI_1, q_if (nI_eq (by omega) (by omega)), o_bs, o_bs]
  · have e20 : (uI (uI τ 32 k (nI (cod g n))) 20 22 (if k = a.2 then nI (k + 1) else nI a.2)).1 20 22 = (if k = a.2 then nI (k + 1) else nI a.2) := by rw [uI_s, va_up_self]
    have e32 : (uI (uI τ 32 k (nI (cod g n))) 20 22 (if k = a.2 then nI (k + 1) else nI a.2)).1 32 = va_up (τ.1 32) k (nI (cod g n)) := rfl
    unfold MB
    rw [e20, e32]
    rcases k3 with ⟨c1, c2⟩ | ⟨c1, c2⟩
    · have : ∃ u, u < a.2 ∧ enc (a.1 u) n = enc g n := ⟨k, c1, (cod_enc (ha k c1) hg).mp (by
        rw [b2 k c1] at c2
        exact (nI_eq (cod_31 (ha k c1)) hc).mp c2)⟩
      rw [mt_in this, if_neg (by omega)]
      refine ⟨rfl, fun u hu => ?_⟩
      by_cases q : u = k
      · rw [q, va_up_self, ← c2, b2 k c1]
      · rw [va_up_ne _ _ q]; exact b2 u hu
    · have : ¬ ∃ u, u < a.2 ∧ enc (a.1 u) n = enc g n := fun ⟨u, u1, u2⟩ => c2 u u1 (by rw [b2 u u1, (cod_enc (ha u u1) hg).mpr u2])
      rw [mt_out this, if_pos c1]
      refine ⟨by rw [c1], fun u hu => ?_⟩
      have hu : u < a.2 + 1 := hu
      show va_up (τ.1 32) k (nI (cod g n)) u = nI (cod (va_up a.1 a.2 g u) n)
      rw [c1]
      by_cases q : u = a.2
      · rw [q, va_up_self, va_up_self]
      · rw [va_up_ne _ _ q, va_up_ne _ _ q]; exact b2 u (by omega)
/-! the class's slots -/
def nz (T : Nat → Int64) : Nat → Nat
  | 0 => 0
  | p + 1 => (if T p = 0 then 0 else 1) + nz T p
theorem nz_all {T : Nat → Int64} : ∀ N, (∀ p, p < N → T p ≠ 0) → nz T N = N
  | 0, _ => rfl
  | N + 1, h => by rw [nz, if_neg (h N (by omega)), nz_all N (fun p hp => h p (by omega))]; omega
theorem nz_congr {T T' : Nat → Int64} : ∀ N, (∀ p, p < N → T p = T' p) → nz T N = nz T' N
  | 0, _ => rfl
  | N + 1, h => by rw [nz, nz, h N (by omega), nz_congr N (fun p hp => h p (by omega))]
theorem nz_up {T : Nat → Int64} {x : Int64} (hx : x ≠ 0) : ∀ N p, p < N → T p = 0 → nz (va_up T p x) N = nz T N + 1
  | 0, _, h, _ => absurd h (Nat.not_lt_zero _)
  | N + 1, p, h, h0 => by
    rw [nz, nz]
    by_cases q : p = N
    · subst q
      rw [va_up_self, if_neg hx, h0, if_pos rfl, nz_congr (T' := T) p (fun u hu => va_up_ne T x (show u ≠ p by omega))]
      omega
    · rw [va_up_ne T x (show N ≠ p by omega), nz_up hx N p (by omega) h0]
      omega
def hsh (g : Nat → Nat) (n : Nat) : Nat := encN g n % 1021
def HT (n : Nat) (a : AC) (T : Nat → Int64) : Prop := (∀ p, p < 1024 → T p = 0 ∨ ∃ k, k < a.2 ∧ T p = enc (a.1 k) n) ∧ (∀ k, k < a.2 → ∃ m, m < 1024 ∧ T ((hsh (a.1 k) n + m) % 1024) = enc (a.1 k) n ∧ ∀ u, u < m → T ((hsh (a.1 k) n + u) % 1024) ≠ 0) ∧ nz T 1024 ≤ a.2
theorem hsh_congr {g g' : Nat → Nat} {n : Nat} (h : TN g n) (h' : TN g' n) (e : enc g n = enc g' n) : hsh g n = hsh g' n := by
  rw [hsh, hsh, encN_congr n ((enc_eq h h').mp e).2]
/-- where the search ends -/
theorem stop_at {n : Nat} {g : Nat → Nat} {a : AC} {T : Nat → Int64} (hT : HT n a T) (h5 : a.2 < 512) : ∃ m, (T ((hsh g n + m) % 1024) = 0 ∨ T ((hsh g n + m) % 1024) = enc g n) ∧ m < 1024 ∧ ∀ u, u < m → ¬ (T ((hsh g n + u) % 1024) = 0 ∨ T ((hsh g n + u) % 1024) = enc g n) := by
  have : ∃ p, p < 1024 ∧ T p = 0 := by
    apply Classical.byContradiction
    intro h
    have := nz_all 1024 (fun p hp e => h ⟨p, hp, e⟩ : ∀ p, p < 1024 → T p ≠ 0)
    have := hT.2.2
    omega
  obtain ⟨p, p1, p2⟩ := this
  have hh : hsh g n < 1021 := Nat.mod_lt _ (by decide)
  obtain ⟨m, m1, m2⟩ := pk_least (fun m => T ((hsh g n + m) % 1024) = 0 ∨ T ((hsh g n + m) % 1024) = enc g n) ⟨(p + 1024 - hsh g n) % 1024, Or.inl (by
    rw [show (hsh g n + (p + 1024 - hsh g n) % 1024) % 1024 = p by omega]; exact p2)⟩
  refine ⟨m, m1, ?_, m2⟩
  rcases Nat.lt_or_ge m 1024 with q | q
  · exact q
  · exact absurd (Or.inl (by rw [show (hsh g n + (p + 1024 - hsh g n) % 1024) % 1024 = p by omega]; exact p2)) (m2 ((p + 1024 - hsh g n) % 1024) (by omega))
theorem meetL_X {σ : ST} {h M : Nat} {e : Int64} (hM : M < 1024) (hs : σ.2.1 13 ((h + M) % 1024) = 0 ∨ σ.2.1 13 ((h + M) % 1024) = e) (hn : ∀ u, u < M → ¬ (σ.2.1 13 ((h + u) % 1024) = 0 ∨ σ.2.1 13 ((h + u) % 1024) = e)) : ∀ r i w fu, i + r = M → r < fu → w ≤ 1024 → (if w < 1024 then w else 0) = (h + i) % 1024 → f_X9_meet_L10 fu e (nI w) (nI i) σ = if σ.2.1 13 ((h + M) % 1024) = e then some σ else f_X9_meet_B56 e (nI ((h + M) % 1024)) σ := by
  have nrm : ∀ w i, w ≤ 1024 → (if w < 1024 then w else 0) = (h + i) % 1024 → (if nI w < 0 then (0 : Int32) else (if nI w < 1024 then nI w else 0)) = nI ((h + i) % 1024) := fun w i h1 h2 => by
    rw [if_neg (nI_pos (by omega)), ← h2]
    by_cases q : w < 1024
    · rw [if_pos (show nI w < 1024 from nI_lt (a := w) (b := 1024) q (by decide)), if_pos q]
    · rw [if_neg (show ¬ nI w < 1024 from nI_nlt (a := w) (b := 1024) (by omega) (by omega)), if_neg q]; rfl
  have inn : ∀ p, inB (nI (p % 1024)) 1024 := fun p => by rw [q_in (by omega)]; omega
  intro r
  induction r with
  | zero =>
    intro i w fu h1 h2 h3 h4
    obtain ⟨f, rfl⟩ : ∃ f, fu = f + 1 := ⟨fu - 1, by omega⟩
    have : i = M := by omega
    subst this
    rw [f_X9_meet_L10, if_neg (show ¬ (1024 : Int32) ≤ nI i from nI_ge (a := i) (b := 1024) hM (by decide)), nrm w i h3 h4, o_bs, f_X9_meet_B33, if_pos (inn _), if_pos (inn _), q_cl (by omega)]
    by_cases q : σ.2.1 13 ((h + i) % 1024) = e
    · rw [if_pos q, if_pos q]
    · rw [if_neg q, if_neg q, if_pos (hs.resolve_right q)]
  | succ r ih =>
    intro i w fu h1 h2 h3 h4
    obtain ⟨f, rfl⟩ : ∃ f, fu = f + 1 := ⟨fu - 1, by omega⟩
    have hni := hn i (by omega)
    rw [f_X9_meet_L10, if_neg (show ¬ (1024 : Int32) ≤ nI i from nI_ge (a := i) (b := 1024) (by omega) (by decide)), nrm w i h3 h4, o_bs, f_X9_meet_B33, if_pos (inn _), if_pos (inn _), q_cl (by omega), if_neg (fun z => hni (Or.inr z)), if_neg (fun z => hni (Or.inl z)), o_bs, o_bs, nI_1, nI_1]
    exact ih (i + 1) ((h + i) % 1024 + 1) f (by omega) (by omega) (by omega) (by
      by_cases q : (h + i) % 1024 + 1 < 1024
      · rw [if_pos q]; omega
      · rw [if_neg q]; omega)
theorem SE.l13 (σ : ST) (k : Nat) (x : Int64) : SE σ (uL σ 13 k x) := ⟨fun _ _ _ _ _ _ _ _ _ _ _ => rfl, fun _ _ _ => rfl, fun o _ h _ => va_up_ne _ _ h, rfl⟩
def XI (n : Nat) (a : AC) (σ : ST) : Prop := HT n a (σ.2.1 13) ∧ σ.1 3 4 = nI a.2
theorem meet_X {σ : ST} {n : Nat} {g : Nat → Nat} {a : AC} (hn : n ≠ 0) (hg : TN g n) (ha : AOK n a) (h5 : a.2 < 512) (hx : XI n a σ) : ∃ σ', SE σ σ' ∧ f_X9_meet (enc g n) σ = some σ' ∧ XI n (mtS n g a) σ' := by
  obtain ⟨hT, h4⟩ := hx
  have hh : hsh g n < 1021 := Nat.mod_lt _ (by decide)
  have e0 : enc g n ≠ 0 := fun z => hn ((enc_ne0 hg).mp z)
  obtain ⟨M, m1, m2, m3⟩ := stop_at (g := g) hT h5
  have hsm := encN_small hg.lt hg.1
  have eh : (j_lrem (enc g n) 1021).toInt32 = nI (hsh g n) := by
    have : j_lrem (lN (encN g n)) 1021 = lN (encN g n % 1021) := pk_lRem (a := encN g n) (b := 1021) (by omega) (by decide) (by decide)
    rw [enc, this, lN_i]; rfl
  have key := meetL_X m2 m1 m3 M 0 (hsh g n) fuel (by omega) (by rw [fuel_eq]; omega) (by omega) (by rw [if_pos (by omega)]; omega)
  obtain ⟨p, hp⟩ : ∃ p, p = (hsh g n + M) % 1024 := ⟨_, rfl⟩
  have hp4 : p < 1024 := by omega
  rw [← hp] at key m1
  rw [f_X9_meet, eh, o_bs, show (0 : Int32) = nI 0 from rfl, key]
  by_cases q : ∃ k, k < a.2 ∧ enc (a.1 k) n = enc g n
  · obtain ⟨k, k1, k2⟩ := q
    have hk := hsh_congr (ha k k1) hg k2
    obtain ⟨u, u1, u2, u3⟩ := hT.2.1 k k1
    rw [hk] at u2 u3
    rw [k2] at u2
    have : σ.2.1 13 p = enc g n := by
      rcases m1 with c | c
      · exfalso
        rcases Nat.lt_trichotomy M u with w | w | w
        · exact u3 M w (by rw [← hp]; exact c)
        · rw [← w, ← hp, c] at u2; exact e0 u2.symm
        · exact m3 u w (Or.inr u2)
      · exact c
    refine ⟨σ, SE.rf σ, by rw [if_pos this], ?_⟩
    rw [mt_in ⟨k, k1, k2⟩]; exact ⟨hT, h4⟩
  · have hne : ∀ v, v < 1024 → σ.2.1 13 v ≠ enc g n := fun v hv e => by
      rcases hT.1 v hv with c | ⟨k, k1, k2⟩
      · rw [c] at e; exact e0 e.symm
      · exact q ⟨k, k1, by rw [← k2]; exact e⟩
    have hz : σ.2.1 13 p = 0 := m1.resolve_right (hne p hp4)
    refine ⟨uI (uL σ 13 p (enc g n)) 3 4 (nI (a.2 + 1)), (SE.l13 σ p _).tr (SE.x3 _ 4 _), ?_, ?_⟩
    · rw [if_neg (hne p hp4), f_X9_meet_B56, if_pos (by rw [q_in (by omega)]; omega), q_cl (by omega), o_bs, show (uL σ 13 p (enc g n)).1 3 4 = σ.1 3 4 from rfl, h4, nI_1, o_bs]
    · rw [mt_out q]
      have e13 : (uI (uL σ 13 p (enc g n)) 3 4 (nI (a.2 + 1))).2.1 13 = va_up (σ.2.1 13) p (enc g n) := by rw [uI_2, uL_s]
      unfold XI
      rw [e13]
      refine ⟨⟨fun v hv => ?_, fun k hk => ?_, ?_⟩, by rw [uI_s, va_up_self]⟩
      · by_cases c : v = p
        · exact Or.inr ⟨a.2, Nat.lt_succ_self _, by rw [c, va_up_self]; show _ = enc (va_up a.1 a.2 g a.2) n; rw [va_up_self]⟩
        · rw [va_up_ne _ _ c]
          rcases hT.1 v hv with d | ⟨k, k1, k2⟩
          · exact Or.inl d
          · exact Or.inr ⟨k, Nat.lt_succ_of_lt k1, by rw [k2]; show _ = enc (va_up a.1 a.2 g k) n; rw [va_up_ne _ _ (by omega)]⟩
      · have hk : k < a.2 + 1 := hk
        show ∃ m, m < 1024 ∧ va_up (σ.2.1 13) p (enc g n) ((hsh (va_up a.1 a.2 g k) n + m) % 1024) = enc (va_up a.1 a.2 g k) n ∧ ∀ u, u < m → va_up (σ.2.1 13) p (enc g n) ((hsh (va_up a.1 a.2 g k) n + u) % 1024) ≠ 0
        by_cases c : k = a.2
        · rw [c, va_up_self]
          refine ⟨M, m2, by rw [← hp, va_up_self], fun u hu => ?_⟩
          by_cases d : (hsh g n + u) % 1024 = p
          · rw [d, va_up_self]; exact e0
          · rw [va_up_ne _ _ d]; exact fun w => m3 u hu (Or.inl w)
        · rw [va_up_ne _ _ c]
          obtain ⟨m, w1, w2, w3⟩ := hT.2.1 k (by omega)
          have ek : enc (a.1 k) n ≠ 0 := fun z => hn ((enc_ne0 (ha k (by omega))).mp z)
          refine ⟨m, w1, ?_, fun u hu => ?_⟩
          · rw [va_up_ne _ _ (fun d => ek (by rw [← w2, d, hz]))]; exact w2
          · by_cases d : (hsh (a.1 k) n + u) % 1024 = p
            · rw [d, va_up_self]; exact e0
            · rw [va_up_ne _ _ d]; exact w3 u hu
      · rw [nz_up e0 1024 p hp4 hz]
        have := hT.2.2
        show nz (σ.2.1 13) 1024 + 1 ≤ a.2 + 1
        omega
