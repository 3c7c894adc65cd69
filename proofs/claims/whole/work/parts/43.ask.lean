/-! ASK -/
theorem bit01 (x : Int32) : x &&& 1 = 0 ∨ x &&& 1 = 1 := by
  obtain ⟨j, h1, h2⟩ := pk_andE x (m := 1) 1 (by decide)
  rcases (show j = 0 ∨ j = 1 by omega) with rfl | rfl
  · exact Or.inl h2
  · exact Or.inr h2
/-- twelve counts, four bits each -/
def pkC (cn : Nat → Nat) : Nat → Nat
  | 0 => 0
  | n + 1 => 2 ^ (4 * n) * cn n + pkC cn n
theorem pkC_congr {g g' : Nat → Nat} : ∀ n, (∀ k, k < n → g k = g' k) → pkC g n = pkC g' n
  | 0, _ => rfl
  | n + 1, h => by rw [pkC, pkC, h n (by omega), pkC_congr n (fun k hk => h k (by omega))]
theorem pkC_lt {g : Nat → Nat} : ∀ n, (∀ k, k < n → g k < 16) → pkC g n < 2 ^ (4 * n)
  | 0, _ => by show 0 < 1; decide
  | n + 1, h => by
    have h1 := pkC_lt n (fun k hk => h k (by omega))
    have h2 := h n (by omega)
    rw [pkC, show 4 * (n + 1) = 4 * n + 4 by omega, Nat.pow_add]
    have h3 : 2 ^ (4 * n) * g n ≤ 2 ^ (4 * n) * 15 := Nat.mul_le_mul_left _ (by omega)
    omega
theorem pkC_dig {g : Nat → Nat} : ∀ n, (∀ k, k < n → g k < 16) → ∀ k, pkC g n / 2 ^ (4 * k) % 16 = if k < n then g k else 0
  | 0, _, k => by simp [pkC]
  | n + 1, h, k => by
    have h1 := pkC_lt n (fun k hk => h k (by omega))
    have h2 := h n (by omega)
    have ih := pkC_dig n (fun k hk => h k (by omega)) k
    by_cases hk : k < n
    · rw [if_pos hk] at ih
      rw [if_pos (by omega), pkC]
      have e : 2 ^ (4 * n) * g n = 2 ^ (4 * k) * (16 * (2 ^ (4 * (n - k - 1)) * g n)) := by
        have e1 : 2 ^ (4 * n) = 2 ^ (4 * k) * (16 * 2 ^ (4 * (n - k - 1))) := by
          rw [show (16 : Nat) = 2 ^ 4 from rfl, ← Nat.pow_add, ← Nat.pow_add]
          congr 1; omega
        rw [e1, Nat.mul_assoc, Nat.mul_assoc]
      rw [e, Nat.mul_add_div (Nat.two_pow_pos _)]
      omega
    · by_cases hk2 : k = n
      · subst hk2
        rw [if_pos (by omega), pkC, Nat.mul_add_div (Nat.two_pow_pos _), Nat.div_eq_of_lt h1]
        omega
      · rw [if_neg (by omega)]
        have hl := pkC_lt (n + 1) h
        rw [Nat.div_eq_of_lt (Nat.lt_of_lt_of_le hl (Nat.pow_le_pow_right (by decide) (by omega)))]
theorem pkC_up {g : Nat → Nat} : ∀ n k, k < n → pkC (va_up g k (g k + 1)) n = pkC g n + 2 ^ (4 * k)
  | 0, _, h => absurd h (Nat.not_lt_zero _)
  | n + 1, k, h => by
    by_cases hk : k = n
    · subst hk
      rw [pkC, pkC, va_up_self, pkC_congr (g' := g) k (fun j hj => va_up_ne g _ (show j ≠ k by omega)), Nat.mul_add, Nat.mul_one]
      omega
    · rw [pkC, pkC, pkC_up n k (by omega), va_up_ne g _ (show n ≠ k by omega)]
      omega
theorem pkC_0 : ∀ n, pkC (fun _ => 0) n = 0
  | 0 => rfl
  | n + 1 => by rw [pkC, pkC_0 n, Nat.mul_zero]
def akS (bits : Int32) (k x t : Nat) (a : (Nat → Nat) × Nat) : (Nat → Nat) × Nat := if j_shr bits (nI t) &&& 1 = 1 then (va_up a.1 (co k t x) (a.1 (co k t x) + 1), if a.2 < a.1 (co k t x) + 1 then a.1 (co k t x) + 1 else a.2) else a
def akW (bits : Int32) (k x : Nat) : Nat := (itr (akS bits k x) 0 12 (fun _ => 0, 0)).2
def akP (j : Nat) (a : (Nat → Nat) × Nat) : Prop := (∀ y, a.1 y ≤ a.2) ∧ a.2 ≤ j
theorem akS_P {bits : Int32} {k x j : Nat} {a : (Nat → Nat) × Nat} (h : akP j a) : akP (j + 1) (akS bits k x j a) := by
  obtain ⟨h1, h2⟩ := h
  unfold akS
  split
  · have hy := h1 (co k j x)
    have hm : a.2 ≤ (if a.2 < a.1 (co k j x) + 1 then a.1 (co k j x) + 1 else a.2) ∧ a.1 (co k j x) + 1 ≤ (if a.2 < a.1 (co k j x) + 1 then a.1 (co k j x) + 1 else a.2) ∧ (if a.2 < a.1 (co k j x) + 1 then a.1 (co k j x) + 1 else a.2) ≤ j + 1 := by
      split <;> omega
    refine ⟨fun y => ?_, hm.2.2⟩
    show va_up a.1 (co k j x) (a.1 (co k j x) + 1) y ≤ if a.2 < a.1 (co k j x) + 1 then a.1 (co k j x) + 1 else a.2
    by_cases q : y = co k j x
    · rw [q, va_up_self]; exact hm.2.1
    · rw [va_up_ne _ _ q]; exact Nat.le_trans (h1 y) hm.1
  · exact ⟨h1, by omega⟩
theorem akW_le (bits : Int32) (k x : Nat) : akW bits k x ≤ 12 := by
  have := itr_inv (step := akS bits k x) akP 12 0 (fun _ => 0, 0) (fun i a _ _ h => akS_P h) ⟨fun _ => Nat.le_refl 0, Nat.le_refl 0⟩
  exact this.2
theorem worst_X {σ : ST} {ad k x : Nat} {bits : Int32} (hx : x < 12) (hk : k < 5) (hK : σ.2.2.2.2.1 ad = xk k) : f_X10_leftAtWorst ad σ (nI x) bits = some (nI (akW bits k x)) := by
  rw [f_X10_leftAtWorst]
  have kk := loopN (α := (Nat → Nat) × Nat) (fun fu v a => f_X10_leftAtWorst_L8 ad σ fu (nI x) bits (lN (pkC a.1 12)) (nI a.2) v) 12 akP (akS bits k x) (fun a => some (nI a.2))
    (fun f j a hj ha => by
      show f_X10_leftAtWorst_L8 ad σ (f + 1) (nI x) bits (lN (pkC a.1 12)) (nI a.2) (nI j) = f_X10_leftAtWorst_L8 ad σ f (nI x) bits (lN (pkC (akS bits k x j a).1 12)) (nI (akS bits k x j a).2) (nI (j + 1))
      rw [f_X10_leftAtWorst_L8, if_neg (show ¬ (12 : Int32) ≤ nI j from nI_ge (a := j) (b := 12) hj (by decide)), akS]
      by_cases q : j_shr bits (nI j) &&& 1 = 1
      · have hP := akS_P (bits := bits) (k := k) (x := x) ha
        rw [akS, if_pos q] at hP
        obtain ⟨y, hy⟩ : ∃ y, y = co k j x := ⟨_, rfl⟩
        rw [if_pos q, if_pos q, alone_X hx hj hk hK, o_bs, ← hy]
        rw [← hy] at hP
        have hy12 : y < 12 := by rw [hy]; exact co_lt hx
        have h15 : ∀ u, u < 12 → va_up a.1 y (a.1 y + 1) u < 16 := fun u _ => by
          have a1 := hP.1 u
          have a2 := hP.2
          have a3 : va_up a.1 y (a.1 y + 1) u ≤ j + 1 := Nat.le_trans a1 a2
          omega
        have e4 : (4 : Int32) * nI y = nI (4 * y) := pk_mul 4 y
        have e1 : j_lshl 1 (nI (4 * y)) = lN (1 * 2 ^ (4 * y)) := q_lshl (v := 1) (by omega)
        have hlt := pkC_lt 12 h15
        have hdg := pkC_dig 12 h15 y
        rw [if_pos hy12, va_up_self] at hdg
        have h64 : pkC (va_up a.1 y (a.1 y + 1)) 12 < 2 ^ 64 := Nat.lt_of_lt_of_le hlt (by decide)
        rw [e4, o_bs, e1, Nat.one_mul, lN_add, ← pkC_up 12 y hy12, o_bs, q_lshr h64 (by omega), q_and15 (Nat.lt_of_le_of_lt (Nat.div_le_self _ _) h64), lN_i, hdg, o_bs, o_bs, nI_1]
        have b1 := ha.2
        have b2 := ha.1 y
        rw [q_if (nI_ltI (show a.2 < 2 ^ 31 by omega) (show a.1 y + 1 < 2 ^ 31 by omega))]
        by_cases q2 : a.2 < a.1 y + 1
        · rw [if_pos q2, if_pos q2]
        · rw [if_neg q2, if_neg q2]
      · rw [if_neg q, if_neg q, o_bs, nI_1])
    (fun j a _ h => akS_P h)
    (fun f a _ => by
      show f_X10_leftAtWorst_L8 ad σ (f + 1) (nI x) bits (lN (pkC a.1 12)) (nI a.2) (nI 12) = _
      rw [f_X10_leftAtWorst_L8, if_pos (by decide)])
  have := kk 12 0 (fun _ => 0, 0) fuel (by decide) (by rw [fuel_eq]; omega) ⟨fun _ => Nat.le_refl 0, Nat.le_refl 0⟩
  rw [pkC_0] at this
  exact this
def akB (bits : Int32) (k x : Nat) (a : Int32 × Nat) : Int32 × Nat := if a.2 ≤ akW bits k x then a else (nI x, akW bits k x)
theorem akB_le {bits : Int32} {k x : Nat} {a : Int32 × Nat} (h : a.2 ≤ 13) : (akB bits k x a).2 ≤ 13 := by
  have := akW_le bits k x
  unfold akB
  split
  · exact h
  · show akW bits k x ≤ 13
    omega
def askV (bits : Int32) (k : Nat) : Int32 := if bits = 0 then -1 else (itr (akB bits k) 0 12 (-1, 13)).1
theorem ask_X {σ : ST} {ad k : Nat} {bits : Int32} (hk : k < 5) (hK : σ.2.2.2.2.1 ad = xk k) : f_X10_ask ad σ bits = some (askV bits k) := by
  rw [f_X10_ask, askV]
  by_cases q0 : bits = 0
  · rw [if_pos q0, if_pos q0]
  · rw [if_neg q0, if_neg q0]
    have kk := loopN (α := Int32 × Nat) (fun fu v a => f_X10_ask_L14 ad σ fu bits a.1 (nI a.2) v) 12 (fun _ a => a.2 ≤ 13) (akB bits k) (fun a => some a.1)
      (fun f j a hj ha => by
        show f_X10_ask_L14 ad σ (f + 1) bits a.1 (nI a.2) (nI j) = f_X10_ask_L14 ad σ f bits (akB bits k j a).1 (nI (akB bits k j a).2) (nI (j + 1))
        have hw := akW_le bits k j
        rw [f_X10_ask_L14, if_neg (show ¬ (12 : Int32) ≤ nI j from nI_ge (a := j) (b := 12) hj (by decide)), worst_X hj hk hK, o_bs, akB, q_if (nI_leI (by omega) (by omega))]
        by_cases q : a.2 ≤ akW bits k j
        · rw [if_pos q, if_pos q, o_bs, nI_1]
        · rw [if_neg q, if_neg q, o_bs, nI_1])
      (fun j a _ h => akB_le h)
      (fun f a _ => by
        show f_X10_ask_L14 ad σ (f + 1) bits a.1 (nI a.2) (nI 12) = _
        rw [f_X10_ask_L14, if_pos (by decide)])
    exact kk 12 0 (-1, 13) fuel (by decide) (by rw [fuel_eq]; omega) (by decide)
theorem ask_ML {σ : ST} {z c b i x : Nat} {kd on ot tn : Nat → Nat} (v : VW σ z c kd on ot tn b) (hi : i < z) (hx : x < 12) (K : Int32 → Int32 → Int32 → Int32 → Int32 → ST → Option (Int32 × ST)) (bits B F : Int32) : ∀ m j (a : (Nat → Nat) × Nat) fu (τ : ST), j + m = 12 → m < fu → akP j a → SM σ τ → (∀ y, y < 12 → τ.1 34 y = nI (a.1 y)) → ∃ σ', SM σ σ' ∧ f_X11_askOf_L56 K fu (nI i) bits B F (nI x) (nI a.2) (nI j) τ = f_X11_askOf_B129 K (nI i) bits B F (nI x) (nI (itr (akS bits (kd i) x) j m a).2) σ' := by
  have hz := v.z8
  intro m
  induction m with
  | zero =>
    intro j a fu τ h1 h2 h3 h4 h5
    obtain ⟨f, rfl⟩ : ∃ f, fu = f + 1 := ⟨fu - 1, by omega⟩
    exact ⟨τ, h4, by rw [f_X11_askOf_L56, show j = 12 by omega, if_pos (by decide), itr]⟩
  | succ m ih =>
    intro j a fu τ h1 h2 h3 h4 h5
    obtain ⟨f, rfl⟩ : ∃ f, fu = f + 1 := ⟨fu - 1, by omega⟩
    have v' := h4.vw v
    have hw := v'.row hi
    have hj : j < 12 := by omega
    obtain ⟨rr, er⟩ := comesOut_M (σ := τ) (kd := kd i) (t := j) (x := x) hx hj hw.1
    obtain ⟨y, hy⟩ : ∃ y, y = co (kd i) j x := ⟨_, rfl⟩
    have hy12 : y < 12 := by rw [hy]; exact co_lt hx
    have iy : inB (nI y) 12 := by rw [q_in (by omega)]; exact hy12
    have b1 := h3.2
    have b2 := h3.1 y
    have hP := akS_P (bits := bits) (k := kd i) (x := x) h3
    have k34 : (uA τ 27 rr).1 34 = τ.1 34 := rfl
    obtain ⟨τ1, hτ1⟩ : ∃ τ1, τ1 = uI (uA τ 27 rr) 34 y (nI (a.1 y) + (j_shr bits (nI j) &&& 1)) := ⟨_, rfl⟩
    have s1 : SM τ τ1 := by
      rw [hτ1]
      exact (SM.uA τ 27 rr (by decide)).tr (SM.uA (uA τ 27 rr) 34 _ (by decide))
    have e34 : τ1.1 34 = va_up (τ.1 34) y (nI (a.1 y) + (j_shr bits (nI j) &&& 1)) := by rw [hτ1]; rfl
    rw [f_X11_askOf_L56, if_neg (show ¬ (12 : Int32) ≤ nI j from nI_ge (a := j) (b := 12) hj (by decide)), mul3, if_pos (by rw [q_in (by omega)]; omega), q_cl (by omega), hw.2.2.2.2.1, er, o_b2s, ← hy, if_pos iy, if_pos iy, o_bs, if_pos iy, if_pos iy, q_cl (by omega), k34, h5 y hy12, ← hτ1, e34, va_up_self]
    rcases bit01 (j_shr bits (nI j)) with q | q
    · rw [q] at e34 ⊢
      rw [Int32.add_zero, if_pos (nI_le b2 (by omega)), o_bs, o_bs, nI_1]
      have ea : akS bits (kd i) x j a = a := by rw [akS, if_neg (by rw [q]; decide)]
      rw [itr, ea]
      rw [ea] at hP
      exact ih (j + 1) a f τ1 (by omega) (by omega) hP (h4.tr s1) (fun u hu => by
        rw [e34, Int32.add_zero]
        by_cases q2 : u = y
        · rw [q2, va_up_self]
        · rw [va_up_ne _ _ q2, h5 u hu])
    · rw [q] at e34 ⊢
      rw [nI_1, q_if (nI_leI (show a.1 y + 1 < 2 ^ 31 by omega) (show a.2 < 2 ^ 31 by omega))]
      have ea : akS bits (kd i) x j a = (va_up a.1 y (a.1 y + 1), if a.2 < a.1 y + 1 then a.1 y + 1 else a.2) := by rw [akS, if_pos q, ← hy]
      have ew : (if a.1 y + 1 ≤ a.2 then some (nI a.2) else some (nI (a.1 y + 1))) = some (nI (if a.2 < a.1 y + 1 then a.1 y + 1 else a.2)) := by
        by_cases q2 : a.1 y + 1 ≤ a.2
        · rw [if_pos q2, if_neg (by omega)]
        · rw [if_neg q2, if_pos (by omega)]
      rw [ew, o_bs, o_bs, nI_1, itr, ea]
      rw [ea] at hP
      exact ih (j + 1) (va_up a.1 y (a.1 y + 1), if a.2 < a.1 y + 1 then a.1 y + 1 else a.2) f τ1 (by omega) (by omega) hP (h4.tr s1) (fun u hu => by
        show τ1.1 34 u = nI (va_up a.1 y (a.1 y + 1) u)
        rw [e34, nI_1]
        by_cases q2 : u = y
        · rw [q2, va_up_self, va_up_self]
        · rw [va_up_ne _ _ q2, va_up_ne _ _ q2, h5 u hu])
theorem ask_MZ (K : Int32 → Int32 → Int32 → Int32 → Int32 → ST → Option (Int32 × ST)) (s bits B F X : Int32) (τ : ST) : f_X11_askOf_L29 K fuel s bits B F X 0 τ = f_X11_askOf_B50 K s bits B F X (uA τ 34 (mx (τ.1 34) (fun _ => 0) 12)) := by
  have e0 : τ = uA τ 34 (mx (τ.1 34) (fun _ => 0) 0) := (uA_self τ 34 _ (fun k => by rw [mx, if_neg (by omega)])).symm
  have key := loopJ (fun fu j => f_X11_askOf_L29 K fu s bits B F X (nI j) (uA τ 34 (mx (τ.1 34) (fun _ => 0) j))) 12 (f_X11_askOf_B50 K s bits B F X (uA τ 34 (mx (τ.1 34) (fun _ => 0) 12))) (fun f j hj => by
    show f_X11_askOf_L29 K (f + 1) s bits B F X (nI j) (uA τ 34 (mx (τ.1 34) (fun _ => 0) j)) = _
    rw [f_X11_askOf_L29, if_neg (show ¬ (12 : Int32) ≤ nI j from nI_ge (a := j) (b := 12) hj (by decide)), if_pos (by rw [q_in (by omega)]; omega), q_cl (by omega), uA_uI, o_bs, o_bs, nI_1]
    exact congrArg (fun z => f_X11_askOf_L29 K f s bits B F X (nI (j + 1)) (uA τ 34 z)) (mx_up (τ.1 34) (fun _ => 0) j)) (fun f => by
    show f_X11_askOf_L29 K (f + 1) s bits B F X (nI 12) (uA τ 34 (mx (τ.1 34) (fun _ => 0) 12)) = _
    rw [f_X11_askOf_L29, if_pos (by decide)]) 12 0 fuel (by decide) (by rw [fuel_eq]; omega)
  rw [← e0] at key
  exact key
theorem ask_M {σ : ST} {z c b i m : Nat} {kd on ot tn : Nat → Nat} (v : VW σ z c kd on ot tn b) (sg : SG σ m) (hi : i < z) : ∃ σ', SM σ σ' ∧ f_X11_askOf (nI i) σ = some (askV (tnV (σ.1 33) m (kd i) i) (kd i), σ') := by
  obtain ⟨σ1, s1, e1⟩ := tonics_M v sg hi
  obtain ⟨bits, hb⟩ : ∃ bits, bits = tnV (σ.1 33) m (kd i) i := ⟨_, rfl⟩
  rw [f_X11_askOf, e1, o_b2s, ← hb, askV]
  by_cases q0 : bits = 0
  · refine ⟨σ1, s1, ?_⟩
    obtain ⟨f, hf⟩ := fuel_s
    rw [hf, f_X11_askOf_L15, if_neg (by decide), if_pos q0, if_pos q0]
  · rw [if_neg q0]
    refine loopK (α := Int32 × Nat) (fun fu x a τ => f_X11_askOf_L15 fu (nI i) bits a.1 (nI a.2) x τ) 12 (SM σ) (fun _ a => a.2 ≤ 13) (akB bits (kd i)) (fun a τ => some (a.1, τ)) (fun f j a τ hj ha hS => ?_) (fun _ _ _ h => akB_le h) (fun f a τ ha hS => ?_) 12 0 (-1, 13) fuel σ1 (by decide) (by rw [fuel_eq]; omega) (by decide) s1
    · show ∃ σ', SM σ σ' ∧ f_X11_askOf_L15 (f + 1) (nI i) bits a.1 (nI a.2) (nI j) τ = f_X11_askOf_L15 f (nI i) bits (akB bits (kd i) j a).1 (nI (akB bits (kd i) j a).2) (nI (j + 1)) σ'
      have hw := akW_le bits (kd i) j
      have s34 : SM τ (uA τ 34 (mx (τ.1 34) (fun _ => 0) 12)) := SM.uA τ 34 _ (by decide)
      obtain ⟨σ', u1, u2⟩ := ask_ML v hi hj (f_X11_askOf_L15 f) bits a.1 (nI a.2) 12 0 (fun _ => 0, 0) fuel (uA τ 34 (mx (τ.1 34) (fun _ => 0) 12)) (by decide) (by rw [fuel_eq]; omega) ⟨fun _ => Nat.le_refl 0, Nat.le_refl 0⟩ (hS.tr s34) (fun y hy => by rw [uA_1, mx, if_pos hy])
      refine ⟨σ', u1, ?_⟩
      rw [f_X11_askOf_L15, if_neg (show ¬ (12 : Int32) ≤ nI j from nI_ge (a := j) (b := 12) hj (by decide)), if_neg q0, ask_MZ, f_X11_askOf_B50]
      refine Eq.trans u2 ?_
      show f_X11_askOf_B129 (f_X11_askOf_L15 f) (nI i) bits a.1 (nI a.2) (nI j) (nI (akW bits (kd i) j)) σ' = _
      rw [f_X11_askOf_B129, o_bs, f_X11_askOf_B142, o_bs, o_bs, nI_1, akB, q_if (nI_leI (by omega) (by omega)), q_if (nI_leI (by omega) (by omega))]
      by_cases q : a.2 ≤ akW bits (kd i) j
      · rw [if_pos q, if_pos q, if_pos q]
      · rw [if_neg q, if_neg q, if_neg q]
    · show ∃ σ', SM σ σ' ∧ f_X11_askOf_L15 (f + 1) (nI i) bits a.1 (nI a.2) (nI 12) τ = some (a.1, σ')
      exact ⟨τ, hS, by rw [f_X11_askOf_L15, if_pos (by decide)]⟩
/-! street() -/
def stV (kd on ot tn : Nat → Nat) (g0 : Nat → Nat) (n0 : Nat) (f : Nat → Int32) (m i : Nat) (w b : Int32) : Int32 := if b = 0 then nI (kd i) else if b = 1 then nI (on i) else if b = 2 then nI (ot i) else if b = 3 then nI (tn i) else if b = 4 then lvV (kd i) (tn i) else if b = 5 then againV (kd i) (tn i) n0 g0 else if b = 6 then tnV f m (kd i) i else if b = 7 then askV (tnV f m (kd i) i) (kd i) else if b = 8 then w else -102
theorem kind_X : ∀ k, k < 5 → fd_kind (xk k) = some (nI k) := by decide +kernel
theorem walks_X {σ : ST} {i : Nat} (hi : i < 8) : f_X3_walks σ (nI i) = some (σ.1 8 i) := by
  rw [f_X3_walks, if_neg (nI_pos (by omega)), if_neg (show ¬ (8 : Int32) ≤ nI i from nI_ge (a := i) (b := 8) (by omega) (by decide)), if_pos (by rw [q_in (by omega)]; omega), q_cl (by omega)]
theorem street_X {σ : ST} {z c nb i m n0 n1 : Nat} {kd on ot tn g0 g1 : Nat → Nat} (v : VW σ z c kd on ot tn nb) (tu : TU σ g0 n0 g1 n1) (sg : SG σ m) (hi : i < z) (b : Int32) : f_X10_street σ (nI i) b = some (stV kd on ot tn g0 n0 (σ.1 33) m i (σ.1 8 i) b) := by
  have hz := v.z8
  have hw := v.row hi
  have ht := v.2.1 i hi
  obtain ⟨a, ea, s⟩ := at_V v hi
  rw [f_X10_street, ea, o_bs]
  show (if b = 0 then (if pv σ a then (fd_kind (σ.2.2.2.2.1 a)).bind fun r6 => some r6 else none) else _) = _
  rw [tonic_V v hi]
  simp only [o_bs, if_pos s.1]
  rw [s.2.1, s.2.2.1, s.2.2.2, kind_X _ hw.1, leaves_X ht.1 hw.1 s.2.1, again_XV v tu hi s, tonics_X sg hw.1 s.2.1, walks_X (by omega), stV]
  simp only [o_bs]
  rw [ask_X hw.1 s.2.1]
  simp only [o_bs, ite_some]
theorem tell_S {σ : ST} {z c nb i m n0 n1 : Nat} {kd on ot tn g0 g1 : Nat → Nat} (v : VW σ z c kd on ot tn nb) (tu : TU σ g0 n0 g1 n1) (sg : SG σ m) (hi : i < z) (b : Int32) : ∃ σ', SM σ σ' ∧ f_X11_tellStreet (nI i) b σ = some (stV kd on ot tn g0 n0 (σ.1 33) m i (σ.1 24 i) b, σ') := by
  have hz := v.z8
  have hw := v.row hi
  have ht := v.2.1 i hi
  have i8 : inB (nI i) 8 := by rw [q_in (by omega)]; omega
  rw [f_X11_tellStreet, stV]
  by_cases q0 : b = 0
  · subst q0
    refine ⟨σ, SM.rf σ, ?_⟩
    rw [if_pos rfl, if_pos rfl, mul3, Int32.add_zero, if_pos (by rw [q_in (by omega)]; omega), q_cl (by omega), hw.2.2.2.2.1]
  rw [if_neg q0, if_neg q0]
  by_cases q1 : b = 1
  · subst q1
    refine ⟨σ, SM.rf σ, ?_⟩
    rw [if_pos rfl, if_pos rfl, mul3, nI_1, if_pos (by rw [q_in (by omega)]; omega), q_cl (by omega), hw.2.2.2.2.2.1]
  rw [if_neg q1, if_neg q1]
  by_cases q2 : b = 2
  · subst q2
    refine ⟨σ, SM.rf σ, ?_⟩
    have e2 : nI (3 * i) + 2 = nI (3 * i + 2) := nI_add _ 2
    rw [if_pos rfl, if_pos rfl, mul3, e2, if_pos (by rw [q_in (by omega)]; omega), q_cl (by omega), hw.2.2.2.2.2.2]
  rw [if_neg q2, if_neg q2]
  by_cases q3 : b = 3
  · refine ⟨σ, SM.rf σ, ?_⟩
    rw [if_pos q3, if_pos q3, if_pos i8, q_cl (by omega), ht.2.2]
  rw [if_neg q3, if_neg q3]
  by_cases q4 : b = 4
  · obtain ⟨σ', u1, u2⟩ := leaves_M v hi
    exact ⟨σ', u1, by rw [if_pos q4, if_pos q4, u2, o_b2s]⟩
  rw [if_neg q4, if_neg q4]
  by_cases q5 : b = 5
  · obtain ⟨σ', u1, u2⟩ := again_MV v tu hi
    exact ⟨σ', u1, by rw [if_pos q5, if_pos q5, u2, o_b2s]⟩
  rw [if_neg q5, if_neg q5]
  by_cases q6 : b = 6
  · obtain ⟨σ', u1, u2⟩ := tonics_M v sg hi
    exact ⟨σ', u1, by rw [if_pos q6, if_pos q6, u2, o_b2s]⟩
  rw [if_neg q6, if_neg q6]
  by_cases q7 : b = 7
  · obtain ⟨σ', u1, u2⟩ := ask_M v sg hi
    exact ⟨σ', u1, by rw [if_pos q7, if_pos q7, u2, o_b2s]⟩
  rw [if_neg q7, if_neg q7]
  refine ⟨σ, SM.rf σ, ?_⟩
  by_cases q8 : b = 8
  · rw [if_pos q8, if_pos q8, if_pos i8, q_cl (by omega)]
  · rw [if_neg q8, if_neg q8]
theorem sp_street {t : Nat} {σ : ST} (h : Inv t σ) (a b c : Int32) : SP6 (Inv (t + 1)) σ a b c := by
  obtain ⟨z, cc, kd, on, ot, tn, nb, g0, n0, g1, n1, cr, m, v, tu, hc, sg, hw⟩ := inv_all h
  rcases street_both v.1 a with ⟨i, ad, s1, rfl, s3, s4, s5⟩ | ⟨s3, s4⟩
  · obtain ⟨σ', u1, u2⟩ := tell_S v tu sg s1 b
    refine ⟨_, street_X v tu sg s1 b, σ', ?_, inv_mono t σ' (u1.inv h)⟩
    rw [f_X11_street, s3, o_bs, if_neg (by decide), u2, o_b2s, hw i s1]
  · exact ⟨-101, by rw [f_X10_street, s4]; rfl, σ, by rw [f_X11_street, s3]; rfl, inv_mono t σ h⟩
