/-! THE INVARIANT, by pieces; each over what it reads alone -/
/-- THE PAGE -/
def PG (pn : Nat) (xl ml : Int32) (xp mp : Nat → Int32) : Prop := pn ≤ 44 ∧ xl = nI pn ∧ ml = nI pn ∧ (∀ k, k < 44 → xp k = mp k) ∧ ∀ k, k < pn → ∃ c, 1 ≤ c ∧ c ≤ 126 ∧ xp k = nI c
/-- THE CITY: z streets, c corners, kinds and ends -/
def CI (z c : Nat) (kd on ot : Nat → Nat) (xc xz mc mz : Int32) (rows : Nat → Int32) (pool : (Nat → Option Nat) × List Nat × (Nat → Nat) × (Nat → Int32) × (Nat → Int32)) : Prop :=
  (z = 0 ∨ 2 ≤ z) ∧ z ≤ 8 ∧ (z = 0 → c = 0) ∧ (z ≠ 0 → 2 ≤ c) ∧ c ≤ 5 ∧ xc = nI c ∧ mc = nI c ∧ xz = nI z ∧ mz = nI z ∧ ∀ i, i < z → kd i < 5 ∧ on i < c ∧ ot i < c ∧ on i ≠ ot i ∧ rows (3 * i) = nI (kd i) ∧ rows (3 * i + 1) = nI (on i) ∧ rows (3 * i + 2) = nI (ot i) ∧ ∃ a, pool.1 i = some a ∧ a ∈ pool.2.1 ∧ pool.2.2.1 a = xk (kd i) ∧ pool.2.2.2.1 a = nI (on i) ∧ pool.2.2.2.2 a = nI (ot i)
/-- what changes while a city stands: the class's cell xi, xl and its five rows; the reference's numbers and rows -/
def NW (z c : Nat) (xi : Nat → Int32) (xl : Nat → Int64) (xt xw x9 x10 x11 : Nat → Int32) (mcr mni mwk m0 m1 msn : Int32) (mt mw mf mg ms : Nat → Int32) : Prop :=
  (∀ i, i < 8 → xt i = mt i) ∧ (∀ i, i < z → ∃ t, t < 12 ∧ mt i = nI t) ∧ (∀ i, i < z → xw i = mw i) ∧
  (∃ g n, TN g n ∧ (∀ k, k < n → mf k = nI (g k)) ∧ m0 = nI n ∧ xl 5 = enc g n) ∧ (∃ g n, TN g n ∧ (∀ k, k < n → mg k = nI (g k)) ∧ m1 = nI n ∧ xl 6 = enc g n) ∧
  (∃ cr, (cr < c ∨ cr = 0) ∧ xi 7 = nI cr ∧ mcr = nI cr) ∧ (∃ b, b < 2 ∧ xi 8 = nI b ∧ mni = nI b) ∧ (∃ w, w ≤ 999 ∧ xi 9 = nI w ∧ mwk = nI w) ∧
  (∃ m, m ≤ 6 ∧ xi 10 = nI m ∧ msn = nI m ∧ ∀ i, i < m → x9 i = ms (3 * i) ∧ x10 i = ms (3 * i + 1) ∧ x11 i = ms (3 * i + 2) ∧ (∃ x, x < 12 ∧ ms (3 * i + 1) = nI x) ∧ ∃ x, x < 12 ∧ ms (3 * i + 2) = nI x)
/-- the image: none; or an elder city's; or this city's -/
def IM (z c rd : Nat) (xr mr : Int32) (w : Prop) : Prop := (xr = 0 ∧ mr = -1) ∨ ∃ j, 1 ≤ j ∧ j ≤ rd ∧ xr = nI j ∧ mr = nI j ∧ (j = rd → w)
def Inv (t : Nat) (σ : ST) : Prop := ∃ (pn z c : Nat) (kd on ot : Nat → Nat) (rd wy : Nat),
  PG pn (σ.1 1 1) (σ.1 20 1) (σ.1 2) (σ.1 21) ∧ CI z c kd on ot (σ.1 4 1) (σ.1 4 2) (σ.1 20 2) (σ.1 20 3) (σ.1 22) σ.2.2 ∧
  NW z c (σ.1 6) (σ.2.1 6) (σ.1 7) (σ.1 8) (σ.1 9) (σ.1 10) (σ.1 11) (σ.1 20 4) (σ.1 20 5) (σ.1 20 6) (σ.1 20 13) (σ.1 20 14) (σ.1 20 23) (σ.1 23) (σ.1 24) (σ.1 25) (σ.1 26) (σ.1 33) ∧
  (rd ≤ t ∧ σ.1 0 5 = nI rd ∧ σ.1 20 7 = nI rd ∧ (z ≠ 0 → 1 ≤ rd)) ∧ (wy ≤ 16 ∧ σ.1 0 7 = nI wy ∧ σ.1 20 20 = nI wy) ∧
  IM z c rd (σ.1 0 6) (σ.1 20 27) (NW z c (σ.1 14) (σ.2.1 14) (σ.1 15) (σ.1 16) (σ.1 17) (σ.1 18) (σ.1 19) (σ.1 20 28) (σ.1 20 29) (σ.1 20 30) (σ.1 20 31) (σ.1 20 32) (σ.1 20 33) (σ.1 35) (σ.1 36) (σ.1 37) (σ.1 38) (σ.1 39))
theorem inv_mono (t : Nat) (σ : ST) (h : Inv t σ) : Inv (t + 1) σ := by
  obtain ⟨pn, z, c, kd, on, ot, rd, wy, h1, h2, h3, h4, h5, h6⟩ := h
  exact ⟨pn, z, c, kd, on, ot, rd, wy, h1, h2, h3, ⟨by omega, h4.2⟩, h5, h6⟩
theorem inv_0 : Inv 0 σ0 := by
  refine ⟨0, 0, 0, fun _ => 0, fun _ => 0, fun _ => 0, 0, 0, ?_, ?_, ?_, ⟨Nat.le_refl 0, rfl, rfl, fun h => absurd rfl h⟩, ⟨by decide, rfl, rfl⟩, Or.inl ⟨rfl, rfl⟩⟩
  · exact ⟨by decide, rfl, rfl, fun k hk => rfl, fun k hk => absurd hk (Nat.not_lt_zero k)⟩
  · exact ⟨Or.inl rfl, by decide, fun _ => rfl, fun h => absurd rfl h, by decide, rfl, rfl, rfl, rfl, fun i hi => absurd hi (Nat.not_lt_zero i)⟩
  · refine ⟨fun _ _ => rfl, fun i hi => absurd hi (Nat.not_lt_zero i), fun i hi => absurd hi (Nat.not_lt_zero i), ⟨fun _ => 0, 0, ⟨by decide, fun k hk => absurd hk (Nat.not_lt_zero k)⟩, fun k hk => absurd hk (Nat.not_lt_zero k), rfl, rfl⟩, ⟨fun _ => 0, 0, ⟨by decide, fun k hk => absurd hk (Nat.not_lt_zero k)⟩, fun k hk => absurd hk (Nat.not_lt_zero k), rfl, rfl⟩, ⟨0, Or.inr rfl, rfl, rfl⟩, ⟨0, by decide, rfl, rfl⟩, ⟨0, by decide, rfl, rfl⟩, ⟨0, by decide, rfl, rfl, fun i hi => absurd hi (Nat.not_lt_zero i)⟩⟩
/-! reading a changed state -/
theorem uI_s (σ : ST) (o k : Nat) (x : Int32) : (uI σ o k x).1 o = va_up (σ.1 o) k x := va_up_self _ _ _
theorem uI_n (σ : ST) (o k : Nat) (x : Int32) (o' : Nat) (h : (o' = o) = False) : (uI σ o k x).1 o' = σ.1 o' := va_up_ne _ _ (of_eq_false h)
theorem uI_2 (σ : ST) (o k : Nat) (x : Int32) : (uI σ o k x).2 = σ.2 := rfl
theorem uL_1 (σ : ST) (o k : Nat) (x : Int64) : (uL σ o k x).1 = σ.1 := rfl
theorem uL_s (σ : ST) (o k : Nat) (x : Int64) : (uL σ o k x).2.1 o = va_up (σ.2.1 o) k x := va_up_self _ _ _
theorem uL_n (σ : ST) (o k : Nat) (x : Int64) (o' : Nat) (h : (o' = o) = False) : (uL σ o k x).2.1 o' = σ.2.1 o' := va_up_ne _ _ (of_eq_false h)
theorem uL_2 (σ : ST) (o k : Nat) (x : Int64) : (uL σ o k x).2.2 = σ.2.2 := rfl
theorem uA_s (σ : ST) (o : Nat) (f : Nat → Int32) : (uA σ o f).1 o = f := va_up_self _ _ _
theorem uA_o (σ : ST) (o : Nat) (f : Nat → Int32) (o' : Nat) (h : (o' = o) = False) : (uA σ o f).1 o' = σ.1 o' := va_up_ne _ _ (of_eq_false h)
theorem uA_2 (σ : ST) (o : Nat) (f : Nat → Int32) : (uA σ o f).2 = σ.2 := rfl
theorem up_s {α : Type} (f : Nat → α) (k : Nat) (x : α) : va_up f k x k = x := va_up_self _ _ _
theorem up_n {α : Type} (f : Nat → α) (k : Nat) (x : α) (j : Nat) (h : (j = k) = False) : va_up f k x j = f j := va_up_ne _ _ (of_eq_false h)
/-! blank() -/
theorem sp_blank {t : Nat} {σ : ST} (h : Inv t σ) (a b c : Int32) : SP1 (Inv (t + 1)) σ a b c := by
  obtain ⟨pn, z, cc, kd, on, ot, rd, wy, h1, h2, h3, h4, h5, h6⟩ := h
  refine ⟨nI pn, uI σ 1 1 0, ?_, uI (uI σ 1 1 0) 20 1 0, ?_, ?_⟩
  · rw [f_X10_blank, o_bs, o_bs, h1.2.1]
  · rw [f_X11_blank, o_bs, o_bs]
    simp only [uI_n, uI_s, up_s, up_n, reduceCtorEq, Nat.reduceEqDiff, h1.2.2.1]
  · refine ⟨0, z, cc, kd, on, ot, rd, wy, ?_, ?_, ?_, ?_, ?_, ?_⟩
    · exact ⟨by decide, rfl, rfl, h1.2.2.2.1, fun k hk => absurd hk (Nat.not_lt_zero k)⟩
    · exact h2
    · exact h3
    · exact ⟨by omega, h4.2⟩
    · exact h5
    · exact h6
