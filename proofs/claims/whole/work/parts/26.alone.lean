/-! a note carried alone: one table for both -/
def one1 (x : Nat) : Nat → Nat := fun _ => x
def co (kd t x : Nat) : Nat := tr kd t (one1 x) 1 0
theorem one_TN {x : Nat} (h : x < 12) : TN (one1 x) 1 := ⟨by decide, fun _ _ => h⟩
theorem co_lt {kd t x : Nat} (h : x < 12) : co kd t x < 12 := tr_lt (one_TN h) (by decide)
theorem alone_X {σ : ST} {a kd t x : Nat} (hx : x < 12) (ht : t < 12) (hkd : kd < 5) (hK : σ.2.2.2.2.1 a = xk kd) : f_X7_alone a σ (nI x) (nI t) = some (nI (co kd t x)) := by
  have e := with_end (g := one1 x) (n := 0) (x := x) ⟨by decide, fun k hk => absurd hk (Nat.not_lt_zero k)⟩ (by decide) hx
  rw [f_X7_alone, show (0 : Int64) = enc (one1 x) 0 from rfl, show (0 : Int32) = nI 0 from rfl, e, o_bs, hK, show va_up (one1 x) 0 x = one1 x from va_up_id (one1 x) 0, heard_X (one_TN hx) (by decide) ht hkd, o_bs]
  rfl
/-- the reference's scratch row 27 holds what comes out -/
theorem comesOut_M {σ : ST} {kd t x : Nat} (hx : x < 12) (ht : t < 12) (hkd : kd < 5) : ∃ f, f_X11_comesOut (nI kd) (nI t) (nI x) σ = some (nI (co kd t x), uA σ 27 f) := by
  have e := go_M (σ := uI σ 27 0 (nI x)) (o := 27) (g := one1 x) (n := 1) (one_TN hx) (by decide) (fun k hk => by
    rw [show k = 0 by omega, uI_uA, uA_1, va_up_self]; rfl) ht hkd
  refine ⟨mx (va_up (σ.1 27) 0 (nI x)) (tr kd t (one1 x) 1) 1, ?_⟩
  rw [f_X11_comesOut, o_bs, show (1 : Int32) = nI 1 from rfl, e, o_bs, uA_1]
  have e2 : ∀ f, uA (uI σ 27 0 (nI x)) 27 f = uA σ 27 f := fun f => by
    rw [uI_uA]; unfold uA; rw [bx_uu]
  rw [e2, uI_uA, uA_1]
  rfl
theorem uA_uA (σ : ST) (o : Nat) (f g : Nat → Int32) : uA (uA σ o f) o g = uA σ o g := by unfold uA; rw [bx_uu]
/-! the reference's copy, isAs -/
theorem copy_M {σ : ST} {o n o' n' : Nat} (hne : o ≠ o') (hn : n ≤ n') (hb : n' < 2 ^ 20) : f_X11_copy o n o' n' σ = some (uA σ o' (fun k => if k < n then σ.1 o k else σ.1 o' k)) := by
  rw [f_X11_copy]
  have e0 : σ = uA σ o' (fun k => if k < 0 then σ.1 o k else σ.1 o' k) := (uA_self σ o' _ (fun k => by rw [if_neg (by omega)])).symm
  have key := loopJ (fun fu j => f_X11_copy_L2 o n o' n' fu (nI j) (uA σ o' (fun k => if k < j then σ.1 o k else σ.1 o' k))) n (some (uA σ o' (fun k => if k < n then σ.1 o k else σ.1 o' k))) (fun f j hj => ?_) (fun f => ?_) n 0 fuel (by omega) (by rw [fuel_eq]; omega)
  · rw [← e0] at key; exact key
  · show f_X11_copy_L2 o n o' n' (f + 1) (nI j) (uA σ o' (fun k => if k < j then σ.1 o k else σ.1 o' k)) = _
    rw [f_X11_copy_L2, if_neg (show ¬ Int32.ofNat n ≤ nI j from nI_ge hj (by omega)), if_pos (by rw [q_in (by omega)]; omega), if_pos (by rw [q_in (by omega)]; omega), uA_n _ _ _ hne, q_cl (by omega), uA_uI, o_bs, o_bs, nI_1]
    refine congrArg (fun z => f_X11_copy_L2 o n o' n' f _ (uA σ o' z)) (funext fun k => ?_)
    by_cases q : k = j
    · subst q; rw [va_up_self, if_pos (by omega)]
    · rw [va_up_ne _ _ q]
      by_cases q2 : k < j
      · rw [if_pos q2, if_pos (by omega)]
      · rw [if_neg q2, if_neg (by omega)]
  · show f_X11_copy_L2 o n o' n' (f + 1) (nI n) _ = _
    rw [f_X11_copy_L2, if_pos (show Int32.ofNat n ≤ nI n from nI_le (Nat.le_refl n) (by omega))]
/-- whether two tunes are one -/
def sameT (g : Nat → Nat) (n : Nat) (g' : Nat → Nat) (n' : Nat) : Prop := n = n' ∧ ∀ k, k < n → g k = g' k
theorem isAs_loop {σ : ST} {o o' n : Nat} {g g' : Nat → Nat} (hn : n ≤ 8) (hg : ∀ k, k < n → g k < 12) (hg' : ∀ k, k < n → g' k < 12) (hr : RW σ o g n) (hr' : RW σ o' g' n) : ∀ m j fu, j + m = n → m < fu → (∀ k, k < j → g k = g' k) → ∃ v, f_X11_isAs_L15 o 8 o' 8 σ fu (nI n) 1 (nI j) = some v ∧ ((v = 1 ∧ ∀ k, k < n → g k = g' k) ∨ (v = 0 ∧ ¬ ∀ k, k < n → g k = g' k)) := by
  intro m
  induction m with
  | zero =>
    intro j fu h1 h2 h3
    obtain ⟨f, rfl⟩ : ∃ f, fu = f + 1 := ⟨fu - 1, by omega⟩
    refine ⟨1, ?_, Or.inl ⟨rfl, fun k hk => h3 k (by omega)⟩⟩
    rw [f_X11_isAs_L15, if_pos (nI_le (by omega) (by omega)), if_pos (by decide)]
  | succ m ih =>
    intro j fu h1 h2 h3
    obtain ⟨f, rfl⟩ : ∃ f, fu = f + 1 := ⟨fu - 1, by omega⟩
    have l1 := hg j (by omega)
    have l2 := hg' j (by omega)
    have step : f_X11_isAs_L15 o 8 o' 8 σ (f + 1) (nI n) 1 (nI j) = f_X11_isAs_L15 o 8 o' 8 σ f (nI n) (if g j = g' j then 1 else 0) (nI (j + 1)) := by
      rw [f_X11_isAs_L15, if_neg (nI_ge (by omega) (by omega)), if_neg (by decide), if_pos (by rw [q_in (by omega)]; omega), if_pos (by rw [q_in (by omega)]; omega), q_cl (by omega), hr j (by omega), hr' j (by omega), o_bs, o_bs, nI_1, q_if (nI_eq (by omega) (by omega))]
    rw [step]
    by_cases q : g j = g' j
    · rw [if_pos q]
      exact ih (j + 1) f (by omega) (by omega) (fun k hk => by
        by_cases q2 : k = j
        · subst q2; exact q
        · exact h3 k (by omega))
    · rw [if_neg q]
      obtain ⟨f', rfl⟩ : ∃ f', f = f' + 1 := ⟨f - 1, by omega⟩
      refine ⟨0, ?_, Or.inr ⟨rfl, fun z => q (z j (by omega))⟩⟩
      rw [f_X11_isAs_L15]
      by_cases q3 : nI n ≤ nI (j + 1)
      · rw [if_pos q3, if_pos (by decide)]
      · rw [if_neg q3, if_pos rfl, if_pos (by decide)]
theorem isAs_M {σ : ST} {o o' n n' : Nat} {g g' : Nat → Nat} (h : TN g n) (h' : TN g' n') (hr : RW σ o g n) (hr' : RW σ o' g' n') : ∃ v, f_X11_isAs o 8 o' 8 σ (nI n) (nI n') = some v ∧ ((v = 1 ∧ enc g n = enc g' n') ∨ (v = 0 ∧ ¬ enc g n = enc g' n')) := by
  have h8 := h.1
  have h8' := h'.1
  rw [f_X11_isAs, o_bs, f_X11_isAs_B10, enc_eq h h']
  by_cases q : n = n'
  · subst q
    rw [if_pos rfl]
    obtain ⟨v, e, z⟩ := isAs_loop h8 h.2 h'.2 hr hr' n 0 fuel (by omega) (by rw [fuel_eq]; omega) (fun k hk => absurd hk (Nat.not_lt_zero k))
    refine ⟨v, e, ?_⟩
    rcases z with ⟨a, b⟩ | ⟨a, b⟩
    · exact Or.inl ⟨a, rfl, b⟩
    · exact Or.inr ⟨a, fun w => b w.2⟩
  · rw [if_neg (fun z => q ((nI_eq (by omega) (by omega)).mp z))]
    refine ⟨0, ?_, Or.inr ⟨rfl, fun w => q w.1⟩⟩
    obtain ⟨f, hf⟩ := fuel_s
    rw [hf, f_X11_isAs_L15]
    by_cases q3 : nI n ≤ 0
    · rw [if_pos q3, if_pos (by decide)]
    · rw [if_neg q3, if_pos rfl, if_pos (by decide)]
