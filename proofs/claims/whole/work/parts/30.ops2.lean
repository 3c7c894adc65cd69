/-! tonic of a street: both; comes(), as(), letter(), see() -/
theorem tonic_X {σ : ST} {i : Nat} (hi : i < 8) : f_X3_tonic σ (nI i) = some (σ.1 7 i) := by
  rw [f_X3_tonic, if_neg (nI_pos (by omega)), if_neg (show ¬ (8 : Int32) ≤ nI i from nI_ge (a := i) (b := 8) (by omega) (by decide)), if_pos (by rw [q_in (by omega)]; omega), q_cl (by omega)]
theorem mul3 (i : Nat) : (3 : Int32) * nI i = nI (3 * i) := pk_mul 3 i
theorem sp_comes {t : Nat} {σ : ST} (h : Inv t σ) (a b c : Int32) : SP8 (Inv (t + 1)) σ a b c := by
  have hI := h
  obtain ⟨pn, z, cc, kd, on, ot, rd, wy, h1, h2, h3, h4, h5, h6⟩ := h
  have hz := h2.2.1
  obtain ⟨n1, n2, n3, n4⟩ := h3
  rcases street_both h2 a with ⟨i, ad, s1, rfl, s3, s4, s5⟩ | ⟨s3, s4⟩
  · have hk := h2.2.2.2.2.2.2.2.2.2 i s1
    obtain ⟨tt, t1, t2⟩ := n2 i s1
    rcases isNote_both b with ⟨x, x1, rfl, x3, x4⟩ | ⟨x3, x4⟩
    · obtain ⟨f, ef⟩ := comesOut_M (σ := σ) (kd := kd i) (t := tt) (x := x) x1 t1 hk.1
      refine ⟨nI (co (kd i) tt x), ?_, uA σ 27 f, ?_, inv_mono t _ ((SE.uA σ 27 f (by decide)).inv hI)⟩
      · rw [f_X10_comes, s4, o_bs]
        show ((f_X10_isNote (nI x)).bind _) = _
        rw [x4, o_bs, if_neg (by decide), tonic_X (by omega), o_bs, if_pos s5.1, n1 i (by omega), t2, alone_X x1 t1 hk.1 s5.2.1, o_bs]
      · rw [f_X11_comes, s3, o_bs, if_neg (by decide), x3, o_bs, if_neg (by decide), mul3, if_pos (by rw [q_in (by omega)]; omega), if_pos (by rw [q_in (by omega)]; omega), q_cl (by omega), q_cl (by omega), hk.2.2.2.2.1, t2, ef, o_b2s]
    · refine ⟨-102, ?_, σ, by rw [f_X11_comes, s3, o_bs, if_neg (by decide), x3]; rfl, inv_mono t σ hI⟩
      rw [f_X10_comes, s4, o_bs]
      show ((f_X10_isNote b).bind _) = _
      rw [x4, o_bs, if_pos rfl]
  · exact ⟨-101, by rw [f_X10_comes, s4]; rfl, σ, by rw [f_X11_comes, s3]; rfl, inv_mono t σ hI⟩
/-! as() -/
theorem sp_as {t : Nat} {σ : ST} (h : Inv t σ) (a b c : Int32) : SP7 (Inv (t + 1)) σ a b c := by
  have hI := h
  obtain ⟨pn, z, cc, kd, on, ot, rd, wy, h1, h2, h3, h4, h5, h6⟩ := h
  have hz := h2.2.1
  rcases street_both h2 a with ⟨i, ad, s1, rfl, s3, s4, s5⟩ | ⟨s3, s4⟩
  · have hk := h2.2.2.2.2.2.2.2.2.2 i s1
    obtain ⟨p1, p2, -, -⟩ := s5
    rcases in0_M (x := b) (hi := 4) (n := 5) (by decide) (by decide) with ⟨j, q1, rfl, q3⟩ | ⟨q1, q3⟩
    · have key : ∀ k, k < 5 → ∀ j, j < 5 → (if (if nI j = 0 then (1 : Int32) else if nI j = nI k then 1 else if nI j = 1 then (if nI k = 4 then 1 else 0) else 0) = 0 then (-1 : Int32) else 7) = (if nI j = 0 then 7 else if nI j = 1 then (if isK (xk k) [2, 5] = 0 then -1 else 7) else if nI j = 2 then (if isK (xk k) [0] = 0 then -1 else 7) else if nI j = 3 then (if isK (xk k) [6] = 0 then -1 else 7) else if nI j = 4 then (if isK (xk k) [5] = 0 then -1 else 7) else -102) := by decide +kernel
      have tabM : ∀ k, k < 5 → ∀ j, j < 5 → (if nI j = 0 then some (1 : Int32) else if nI j = nI k then some 1 else if nI j = 1 then (if nI k = 4 then some 1 else some 0) else some 0) = some (if (j = 0 ∨ j = k ∨ (j = 1 ∧ k = 4)) then 1 else 0) := by decide +kernel
      have tabX : ∀ k, k < 5 → (isK (xk k) [2, 5] = 0 ↔ ¬ (1 = k ∨ k = 4)) ∧ (isK (xk k) [0] = 0 ↔ ¬ 2 = k) ∧ (isK (xk k) [6] = 0 ↔ ¬ 3 = k) ∧ (isK (xk k) [5] = 0 ↔ ¬ 4 = k) := by decide +kernel
      obtain ⟨x1, x2, x3, x4⟩ := tabX (kd i) hk.1
      have hin : inB (nI (3 * i)) 24 := by rw [q_in (by omega)]; omega
      refine ⟨if (j = 0 ∨ j = kd i ∨ (j = 1 ∧ kd i = 4)) then nI i else -1, ?_, ?_, inv_mono t σ hI⟩
      · rw [f_X10_as, s4, o_bs]
        show (if nI j = 0 then some (nI i) else _) = _
        rcases (show j = 0 ∨ j = 1 ∨ j = 2 ∨ j = 3 ∨ j = 4 by omega) with rfl | rfl | rfl | rfl | rfl
        · rfl
        · rw [if_neg (by decide), if_pos (by decide), if_pos p1, p2, q_if x1]
          by_cases q : 1 = kd i ∨ kd i = 4
          · rw [if_neg (fun z => z q), if_pos (by omega)]
          · rw [if_pos q, if_neg (by omega)]
        · rw [if_neg (by decide), if_neg (by decide), if_pos (by decide), if_pos p1, p2, q_if x2]
          by_cases q : 2 = kd i
          · rw [if_neg (fun z => z q), if_pos (by omega)]
          · rw [if_pos q, if_neg (by omega)]
        · rw [if_neg (by decide), if_neg (by decide), if_neg (by decide), if_pos (by decide), if_pos p1, p2, q_if x3]
          by_cases q : 3 = kd i
          · rw [if_neg (fun z => z q), if_pos (by omega)]
          · rw [if_pos q, if_neg (by omega)]
        · rw [if_neg (by decide), if_neg (by decide), if_neg (by decide), if_neg (by decide), if_pos (by decide), if_pos p1, p2, q_if x4]
          by_cases q : 4 = kd i
          · rw [if_neg (fun z => z q), if_pos (by omega)]
          · rw [if_pos q, if_neg (by omega)]
      · rw [f_X11_as, s3, o_bs, if_neg (by decide), q3, o_bs, if_neg (by decide), mul3, if_pos hin, if_pos hin, q_cl (by omega), hk.2.2.2.2.1, tabM _ hk.1 _ q1, o_bs, f_X11_as_B64]
        by_cases q : j = 0 ∨ j = kd i ∨ (j = 1 ∧ kd i = 4)
        · rw [if_pos q, if_pos q, if_neg (by decide)]
        · rw [if_neg q, if_neg q, if_pos rfl]
    · refine ⟨-102, ?_, by rw [f_X11_as, s3, o_bs, if_neg (by decide), q3]; rfl, inv_mono t σ hI⟩
      have ne : ∀ k : Nat, k < 5 → ¬ b = nI k := fun k hk e => by
        subst e
        rcases q1 with q | q
        · exact nI_pos (by omega) q
        · exact nI_ge (a := k) (b := 5) hk (by decide) q
      rw [f_X10_as, s4, o_bs]
      show (if b = 0 then some (nI i) else _) = _
      rw [if_neg (show ¬ b = 0 from ne 0 (by decide)), if_neg (show ¬ b = 1 from ne 1 (by decide)), if_neg (show ¬ b = 2 from ne 2 (by decide)), if_neg (show ¬ b = 3 from ne 3 (by decide)), if_neg (show ¬ b = 4 from ne 4 (by decide))]
  · exact ⟨-101, by rw [f_X10_as, s4]; rfl, by rw [f_X11_as, s3]; rfl, inv_mono t σ hI⟩
/-! letter() -/
theorem sp_letter {t : Nat} {σ : ST} (h : Inv t σ) (a b c : Int32) : SP0 (Inv (t + 1)) σ a b c := by
  have hI := h
  obtain ⟨pn, z, cc, kd, on, ot, rd, wy, h1, h2, h3, h4, h5, h6⟩ := h
  obtain ⟨p1, p2, p3, p4, p5⟩ := h1
  have ein := in_M a (lo := 1) (hi := 126) 1 126 (by decide) (by decide)
  have i1 : (a < 1) ↔ a.toInt < 1 := by rw [Int32.lt_iff_toInt_lt]; exact Iff.rfl
  have i2 : (a ≤ 126) ↔ a.toInt ≤ 126 := by rw [Int32.le_iff_toInt_le]; exact Iff.rfl
  by_cases q : 1 ≤ a.toInt ∧ a.toInt ≤ 126
  · rw [if_pos q] at ein
    obtain ⟨ch, hc1, hc2⟩ : ∃ ch, ch ≤ 126 ∧ a = nI ch := nI_of2 (M := 126) (by decide) (fun z => by have := neg_toInt z; omega) (i2.mpr q.2)
    subst hc2
    have hc3 : 1 ≤ ch := by
      have := q.1
      rw [nI_toInt (by omega)] at this; omega
    have x1 : ¬ nI ch < 1 := fun z => by have := i1.mp z; omega
    by_cases q2 : pn = 44
    · subst q2
      refine ⟨-104, σ, by rw [f_X10_letter, if_neg x1, if_pos (i2.mpr q.2), p2, if_neg (by decide)], σ, by rw [f_X11_letter, ein, o_bs, if_neg (by decide), p3, if_pos (by decide)], inv_mono t σ hI⟩
    · have hin : inB (nI pn) 44 := by rw [q_in (by omega)]; omega
      refine ⟨nI (pn + 1), uI (uI σ 2 pn (nI ch)) 1 1 (nI (pn + 1)), ?_, uI (uI (uI (uI σ 2 pn (nI ch)) 1 1 (nI (pn + 1))) 21 pn (nI ch)) 20 1 (nI (pn + 1)), ?_, ?_⟩
      · rw [f_X10_letter, if_neg x1, if_pos (i2.mpr q.2), p2, if_pos (show nI pn < 44 from nI_lt (a := pn) (b := 44) (by omega) (by decide)), f_X4_add, p2, if_neg (nI_pos (by omega)), if_neg (show ¬ (44 : Int32) ≤ nI pn from nI_ge (a := pn) (b := 44) (by omega) (by decide)), if_pos hin, q_cl (by omega), o_bs, show (uI σ 2 pn (nI ch)).1 1 1 = σ.1 1 1 from rfl, p2, nI_1, o_bs, o_bs]
        rfl
      · rw [f_X11_letter, ein, o_bs, if_neg (by decide)]
        show (if σ.1 20 1 = 44 then _ else if inB (σ.1 20 1) 44 then (some (uI _ 21 (σ.1 20 1).toNatClampNeg _)).bind _ else none) = _
        rw [p3, if_neg (show ¬ nI pn = 44 from fun z => q2 ((nI_eq (b := 44) (by omega) (by decide)).mp z)), if_pos hin, q_cl (by omega), o_bs]
        show ((some (uI _ 20 1 (σ.1 20 1 + 1))).bind _) = _
        rw [p3, nI_1, o_bs]
        rfl
      · refine ⟨pn + 1, z, cc, kd, on, ot, rd, wy, ⟨by omega, rfl, rfl, fun k hk => ?_, fun k hk => ?_⟩, h2, h3, ⟨by omega, h4.2⟩, h5, h6⟩
        · show va_up (σ.1 2) pn (nI ch) k = va_up (σ.1 21) pn (nI ch) k
          by_cases q3 : k = pn
          · subst q3; rw [va_up_self, va_up_self]
          · rw [va_up_ne _ _ q3, va_up_ne _ _ q3, p4 k hk]
        · show ∃ c, 1 ≤ c ∧ c ≤ 126 ∧ va_up (σ.1 2) pn (nI ch) k = nI c
          by_cases q3 : k = pn
          · subst q3; exact ⟨ch, hc3, hc1, va_up_self _ _ _⟩
          · rw [va_up_ne _ _ q3]; exact p5 k (by omega)
  · rw [if_neg q] at ein
    refine ⟨-102, σ, ?_, σ, by rw [f_X11_letter, ein]; rfl, inv_mono t σ hI⟩
    rw [f_X10_letter]
    by_cases qa : a < 1
    · rw [if_pos qa]
    · rw [if_neg qa, if_neg (fun z => q ⟨by have := mt i1.mpr qa; omega, i2.mp z⟩)]
