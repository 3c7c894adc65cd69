/-! in, isNote, isStreet, at; small calls -/
theorem in_M (x : Int32) {lo hi : Int64} (l h : Int) (hl : lo.toInt = l) (hh : hi.toInt = h) : f_X11_in x.toInt64 lo hi = some (if l ≤ x.toInt ∧ x.toInt ≤ h then 1 else 0) := by
  have e : x.toInt64.toInt = x.toInt := Int32.toInt_toInt64 x
  rw [f_X11_in]
  by_cases q1 : x.toInt64 < lo
  · have := Int64.lt_iff_toInt_lt.mp q1
    rw [if_pos q1, if_neg (by omega)]
  · have a1 : ¬ x.toInt64.toInt < lo.toInt := fun z => q1 (Int64.lt_iff_toInt_lt.mpr z)
    rw [if_neg q1]
    by_cases q2 : hi < x.toInt64
    · have := Int64.lt_iff_toInt_lt.mp q2
      rw [if_pos q2, if_neg (by omega)]
    · have a2 : ¬ hi.toInt < x.toInt64.toInt := fun z => q2 (Int64.lt_iff_toInt_lt.mpr z)
      rw [if_neg q2, if_pos (by omega)]
theorem neg_toInt {x : Int32} (h : x < 0) : x.toInt < 0 := by
  have := Int32.lt_iff_toInt_lt.mp h
  simpa using this
theorem big_toInt {x : Int32} {n : Nat} (hn : n < 2 ^ 31) (h : nI n ≤ x) : (n : Int) ≤ x.toInt := by
  have := Int32.le_iff_toInt_le.mp h
  rwa [nI_toInt hn] at this
theorem in0_M {x : Int32} {hi : Int64} {n : Nat} (hh : hi.toInt = (n : Int) - 1) (hn : n < 2 ^ 31) : (∃ j, j < n ∧ x = nI j ∧ f_X11_in x.toInt64 0 hi = some 1) ∨ ((x < 0 ∨ nI n ≤ x) ∧ f_X11_in x.toInt64 0 hi = some 0) := by
  rw [in_M x 0 _ (by decide) hh]
  rcases pk_ix x hn with q | q | ⟨j, h1, rfl⟩
  · have := neg_toInt q
    exact Or.inr ⟨Or.inl q, by rw [if_neg (by omega)]⟩
  · have := big_toInt hn q
    exact Or.inr ⟨Or.inr q, by rw [if_neg (by omega)]⟩
  · exact Or.inl ⟨j, h1, rfl, by rw [if_pos (by rw [nI_toInt (by omega)]; omega)]⟩
theorem pred64 {n : Nat} (hn : n < 2 ^ 30) : (nI n - 1).toInt64.toInt = (n : Int) - 1 := by
  rw [Int32.toInt_toInt64]
  exact pk_sub_toInt (b := 1) hn (by decide)
/-- a note, or not: both say so -/
theorem isNote_both (x : Int32) : (∃ j, j < 12 ∧ x = nI j ∧ f_X11_isNote x = some 1 ∧ f_X10_isNote x = some 1) ∨ (f_X11_isNote x = some 0 ∧ f_X10_isNote x = some 0) := by
  rcases in0_M (x := x) (hi := 11) (n := 12) (by decide) (by decide) with ⟨j, h1, h2, h3⟩ | ⟨h1, h3⟩
  · refine Or.inl ⟨j, h1, h2, by rw [f_X11_isNote, h3]; rfl, ?_⟩
    subst h2
    rw [f_X10_isNote, if_neg (nI_pos (by omega)), if_neg (show ¬ (12 : Int32) ≤ nI j from nI_ge (a := j) (b := 12) h1 (by decide))]
  · refine Or.inr ⟨by rw [f_X11_isNote, h3]; rfl, ?_⟩
    rw [f_X10_isNote]
    rcases h1 with q | q
    · rw [if_pos q]
    · by_cases q2 : x < 0
      · rw [if_pos q2]
      · rw [if_neg q2, if_pos (show (12 : Int32) ≤ x from q)]
theorem xk_pv (kd : Nat) : xk kd = 0 ∨ xk kd = 2 ∨ xk kd = 5 ∨ xk kd = 6 ∨ xk kd = 7 := by
  unfold xk; repeat' split
  all_goals simp
/-- the city's piece for σ -/
abbrev CIσ (z c : Nat) (kd on ot : Nat → Nat) (σ : ST) : Prop := CI z c kd on ot (σ.1 4 1) (σ.1 4 2) (σ.1 20 2) (σ.1 20 3) (σ.1 22) σ.2.2
/-- a street of the class: its address and what it holds -/
def STR (σ : ST) (kd on ot : Nat → Nat) (i a : Nat) : Prop := pv σ a ∧ σ.2.2.2.2.1 a = xk (kd i) ∧ σ.2.2.2.2.2.1 a = nI (on i) ∧ σ.2.2.2.2.2.2 a = nI (ot i)
theorem street_both {σ : ST} {z c : Nat} {kd on ot : Nat → Nat} (h : CIσ z c kd on ot σ) (x : Int32) : (∃ i a, i < z ∧ x = nI i ∧ f_X11_isStreet σ x = some 1 ∧ f_X1_at σ x = some (some a) ∧ STR σ kd on ot i a) ∨ (f_X11_isStreet σ x = some 0 ∧ f_X1_at σ x = some none) := by
  obtain ⟨h1, h2, h3, h4, h5, h6, h7, h8, h9, h10⟩ := h
  rcases in0_M (x := x) (hi := (nI z - 1).toInt64) (n := z) (pred64 (by omega)) (by omega) with ⟨j, q1, q2, q3⟩ | ⟨q1, q3⟩
  · subst q2
    obtain ⟨a1, a2, a3, a4, a5, a6, a7, a, b1, b2, b3, b4, b5⟩ := h10 j q1
    refine Or.inl ⟨j, a, q1, rfl, by rw [f_X11_isStreet, h9, q3]; rfl, ?_, ⟨b2, by rw [b3]; exact xk_pv _⟩, b3, b4, b5⟩
    rw [f_X1_at, if_neg (nI_pos (by omega)), h8, if_neg (nI_ge q1 (by omega)), if_neg (show ¬ (8 : Int32) ≤ nI j from nI_ge (a := j) (b := 8) (by omega) (by decide)), if_pos (by rw [q_in (by omega)]; omega), q_cl (by omega), b1]
  · refine Or.inr ⟨by rw [f_X11_isStreet, h9, q3]; rfl, ?_⟩
    rw [f_X1_at, h8]
    rcases q1 with q | q
    · rw [if_pos q]
    · by_cases q2 : x < 0
      · rw [if_pos q2]
      · rw [if_neg q2, if_pos q]
/-! forget() -/
theorem sp_forget {t : Nat} {σ : ST} (h : Inv t σ) (a b c : Int32) : SP19 (Inv (t + 1)) σ a b c := by
  obtain ⟨pn, z, cc, kd, on, ot, rd, wy, h1, h2, h3, h4, h5, h6⟩ := h
  obtain ⟨n1, n2, n3, n4, n5, n6, n7, n8, m, m1, m2, m3, m4⟩ := h3
  refine ⟨nI m, uI σ 6 10 0, by rw [f_X10_forget, o_bs, o_bs, m2], uI (uI σ 6 10 0) 20 23 0, ?_, ?_⟩
  · rw [f_X11_forget, o_bs, o_bs]
    show some (σ.1 20 23, _) = _
    rw [m3]
  · exact ⟨pn, z, cc, kd, on, ot, rd, wy, h1, h2, ⟨n1, n2, n3, n4, n5, n6, n7, n8, 0, by decide, rfl, rfl, fun i hi => absurd hi (Nat.not_lt_zero i)⟩, ⟨by omega, h4.2⟩, h5, h6⟩
/-! dusk() -/
theorem lacks_M {σ : ST} {z c : Nat} {kd on ot : Nat → Nat} (h : CIσ z c kd on ot σ) : f_X11_lacks σ = some (if z = 0 then 1 else 0) ∧ f_X10_noCity σ = some (if z = 0 then 1 else 0) := by
  obtain ⟨h1, h2, h3, h4, h5, h6, h7, h8, h9, h10⟩ := h
  rw [f_X11_lacks, f_X10_noCity, h8, h9]
  by_cases q : z = 0
  · subst q; exact ⟨rfl, rfl⟩
  · rw [if_neg (show ¬ nI z = 0 from nI_ne0 (by omega) (by omega)), if_neg q]; exact ⟨rfl, rfl⟩
theorem sp_dusk {t : Nat} {σ : ST} (h : Inv t σ) (a b c : Int32) : SP11 (Inv (t + 1)) σ a b c := by
  obtain ⟨pn, z, cc, kd, on, ot, rd, wy, h1, h2, h3, h4, h5, h6⟩ := h
  obtain ⟨l1, l2⟩ := lacks_M h2
  obtain ⟨n1, n2, n3, n4, n5, n6, ⟨b0, c1, c2, c3⟩, n8⟩ := h3
  by_cases q : z = 0
  · subst q
    refine ⟨-103, σ, by rw [f_X10_dusk, l2]; rfl, σ, by rw [f_X11_dusk, l1]; rfl, inv_mono t σ ⟨pn, 0, cc, kd, on, ot, rd, wy, h1, h2, ⟨n1, n2, n3, n4, n5, n6, ⟨b0, c1, c2, c3⟩, n8⟩, h4, h5, h6⟩⟩
  · rw [if_neg q] at l1 l2
    rcases (show b0 = 0 ∨ b0 = 1 by omega) with rfl | rfl
    · refine ⟨1, uI σ 6 8 1, ?_, uI (uI σ 6 8 1) 20 5 1, ?_, ?_⟩
      · rw [f_X10_dusk, l2, o_bs, if_pos rfl, c2]; rfl
      · rw [f_X11_dusk, show f_X11_lacks (uI σ 6 8 1) = f_X11_lacks σ from rfl, l1, o_bs, if_pos rfl, show (uI σ 6 8 1).1 20 5 = σ.1 20 5 from rfl, c3]; rfl
      · exact ⟨pn, z, cc, kd, on, ot, rd, wy, h1, h2, ⟨n1, n2, n3, n4, n5, n6, ⟨1, by decide, rfl, rfl⟩, n8⟩, ⟨by omega, h4.2⟩, h5, h6⟩
    · refine ⟨0, uI σ 6 8 0, ?_, uI (uI σ 6 8 0) 20 5 0, ?_, ?_⟩
      · rw [f_X10_dusk, l2, o_bs, if_pos rfl, c2]; rfl
      · rw [f_X11_dusk, show f_X11_lacks (uI σ 6 8 0) = f_X11_lacks σ from rfl, l1, o_bs, if_pos rfl, show (uI σ 6 8 0).1 20 5 = σ.1 20 5 from rfl, c3]; rfl
      · exact ⟨pn, z, cc, kd, on, ot, rd, wy, h1, h2, ⟨n1, n2, n3, n4, n5, n6, ⟨0, by decide, rfl, rfl⟩, n8⟩, ⟨by omega, h4.2⟩, h5, h6⟩
