/-! see(), image(), restore() -/
theorem sp_see {t : Nat} {σ : ST} (h : Inv t σ) (a b c : Int32) : SP18 (Inv (t + 1)) σ a b c := by
  have hI := h
  obtain ⟨pn, z, cc, kd, on, ot, rd, wy, h1, h2, h3, h4, h5, h6⟩ := h
  have hz := h2.2.1
  obtain ⟨n1, n2, n3, n4, n5, n6, n7, n8, m, m1, m2, m3, m4⟩ := h3
  rcases street_both h2 a with ⟨i, ad, s1, rfl, s3, s4, s5⟩ | ⟨s3, s4⟩
  · rcases isNote_both b with ⟨x, x1, rfl, x3, x4⟩ | ⟨x3, x4⟩
    · rcases isNote_both c with ⟨y, y1, rfl, y3, y4⟩ | ⟨y3, y4⟩
      · by_cases q : m = 6
        · subst q
          refine ⟨-104, σ, ?_, σ, by rw [f_X11_see, s3, o_bs, if_neg (by decide), x3, o_bs, if_neg (by decide), y3, o_bs, if_neg (by decide), m3, if_pos (by decide)], inv_mono t σ hI⟩
          rw [f_X10_see, s4, o_bs]
          show ((f_X10_isNote (nI x)).bind _) = _
          rw [x4, o_bs, if_neg (by decide), y4, o_bs, if_neg (by decide), m2, if_neg (by decide)]
        · have hin : inB (nI m) 6 := by rw [q_in (by omega)]; omega
          have hm0 : ¬ nI m < 0 := nI_pos (by omega)
          have hm6 : ¬ (6 : Int32) ≤ nI m := nI_ge (a := m) (b := 6) (by omega) (by decide)
          have eX : f_X10_see (nI i) (nI x) (nI y) σ = some (nI (m + 1), uI (uI (uI (uI σ 9 m (nI i)) 10 m (nI x)) 11 m (nI y)) 6 10 (nI (m + 1))) := by
            rw [f_X10_see, s4, o_bs]
            show ((f_X10_isNote (nI x)).bind _) = _
            rw [x4, o_bs, if_neg (by decide), y4, o_bs, if_neg (by decide), m2, if_pos (show nI m < 6 from nI_lt (a := m) (b := 6) (by omega) (by decide)), f_X3_addSight, m2, if_neg hm0, if_neg hm6, if_pos hin, q_cl (by omega), o_bs, show (uI σ 9 m (nI i)).1 6 10 = σ.1 6 10 from rfl, m2, if_pos hin, q_cl (by omega), o_bs, show (uI (uI σ 9 m (nI i)) 10 m (nI x)).1 6 10 = σ.1 6 10 from rfl, m2, if_pos hin, q_cl (by omega), o_bs, show (uI (uI (uI σ 9 m (nI i)) 10 m (nI x)) 11 m (nI y)).1 6 10 = σ.1 6 10 from rfl, m2, nI_1, o_bs, o_bs]
            rfl
          obtain ⟨τ, hτ⟩ : ∃ τ, τ = uI (uI (uI (uI σ 9 m (nI i)) 10 m (nI x)) 11 m (nI y)) 6 10 (nI (m + 1)) := ⟨_, rfl⟩
          have k1 : τ.1 20 23 = nI m := by rw [hτ]; exact m3
          have e0 : (3 : Int32) * nI m = nI (3 * m) := mul3 m
          have e1 : nI (3 * m) + 1 = nI (3 * m + 1) := nI_1 _
          have e2 : nI (3 * m) + 2 = nI (3 * m + 2) := nI_add _ 2
          refine ⟨nI (m + 1), τ, by rw [eX, hτ], uI (uI (uI (uI τ 33 (3 * m) (nI i)) 33 (3 * m + 1) (nI x)) 33 (3 * m + 2) (nI y)) 20 23 (nI (m + 1)), ?_, ?_⟩
          · rw [f_X11_see, show f_X11_isStreet τ (nI i) = f_X11_isStreet σ (nI i) by rw [hτ]; rfl, s3, o_bs, if_neg (by decide), x3, o_bs, if_neg (by decide), y3, o_bs, if_neg (by decide), k1, if_neg (show ¬ nI m = 6 from fun z => q ((nI_eq (b := 6) (by omega) (by decide)).mp z)), e0, if_pos (by rw [q_in (by omega)]; omega), q_cl (by omega), o_bs]
            rw [show (uI τ 33 (3 * m) (nI i)).1 20 23 = τ.1 20 23 from rfl, k1, e0, e1, if_pos (by rw [q_in (by omega)]; omega), q_cl (by omega), o_bs]
            rw [show (uI (uI τ 33 (3 * m) (nI i)) 33 (3 * m + 1) (nI x)).1 20 23 = τ.1 20 23 from rfl, k1, e0, e2, if_pos (by rw [q_in (by omega)]; omega), q_cl (by omega), o_bs]
            rw [show (uI (uI (uI τ 33 (3 * m) (nI i)) 33 (3 * m + 1) (nI x)) 33 (3 * m + 2) (nI y)).1 20 23 = τ.1 20 23 from rfl, k1, nI_1, o_bs]
            rfl
          · subst hτ
            refine ⟨pn, z, cc, kd, on, ot, rd, wy, h1, h2, ⟨n1, n2, n3, n4, n5, n6, n7, n8, m + 1, by omega, rfl, rfl, fun j hj => ?_⟩, ⟨by omega, h4.2⟩, h5, h6⟩
            have r33 : ∀ k, va_up (va_up (va_up (σ.1 33) (3 * m) (nI i)) (3 * m + 1) (nI x)) (3 * m + 2) (nI y) k = if k = 3 * m + 2 then nI y else if k = 3 * m + 1 then nI x else if k = 3 * m then nI i else σ.1 33 k := fun k => rfl
            show va_up (σ.1 9) m (nI i) j = va_up (va_up (va_up (σ.1 33) (3 * m) (nI i)) (3 * m + 1) (nI x)) (3 * m + 2) (nI y) (3 * j) ∧ va_up (σ.1 10) m (nI x) j = va_up (va_up (va_up (σ.1 33) (3 * m) (nI i)) (3 * m + 1) (nI x)) (3 * m + 2) (nI y) (3 * j + 1) ∧ va_up (σ.1 11) m (nI y) j = va_up (va_up (va_up (σ.1 33) (3 * m) (nI i)) (3 * m + 1) (nI x)) (3 * m + 2) (nI y) (3 * j + 2) ∧ (∃ u, u < 12 ∧ va_up (va_up (va_up (σ.1 33) (3 * m) (nI i)) (3 * m + 1) (nI x)) (3 * m + 2) (nI y) (3 * j + 1) = nI u) ∧ ∃ u, u < 12 ∧ va_up (va_up (va_up (σ.1 33) (3 * m) (nI i)) (3 * m + 1) (nI x)) (3 * m + 2) (nI y) (3 * j + 2) = nI u
            rw [r33, r33, r33]
            by_cases q3 : j = m
            · subst q3
              rw [va_up_self, va_up_self, va_up_self, if_neg (by omega), if_neg (by omega), if_pos rfl, if_neg (by omega), if_pos rfl, if_pos rfl]
              exact ⟨rfl, rfl, rfl, ⟨x, x1, rfl⟩, y, y1, rfl⟩
            · rw [va_up_ne _ _ q3, va_up_ne _ _ q3, va_up_ne _ _ q3, if_neg (by omega), if_neg (by omega), if_neg (by omega), if_neg (by omega), if_neg (by omega), if_neg (by omega), if_neg (by omega), if_neg (by omega), if_neg (by omega)]
              exact m4 j (by omega)
      · refine ⟨-102, σ, ?_, σ, by rw [f_X11_see, s3, o_bs, if_neg (by decide), x3, o_bs, if_neg (by decide), y3]; rfl, inv_mono t σ hI⟩
        rw [f_X10_see, s4, o_bs]
        show ((f_X10_isNote (nI x)).bind _) = _
        rw [x4, o_bs, if_neg (by decide), y4]; rfl
    · refine ⟨-102, σ, ?_, σ, by rw [f_X11_see, s3, o_bs, if_neg (by decide), x3]; rfl, inv_mono t σ hI⟩
      rw [f_X10_see, s4, o_bs]
      show ((f_X10_isNote b).bind _) = _
      rw [x4]; rfl
  · exact ⟨-101, σ, by rw [f_X10_see, s4]; rfl, σ, by rw [f_X11_see, s3]; rfl, inv_mono t σ hI⟩
