/-! walk() -/
theorem vw_of {σ : ST} {z c b : Nat} {kd on ot : Nat → Nat} (h2 : CIσ z c kd on ot σ) (n1 : ∀ i, i < 8 → σ.1 7 i = σ.1 23 i) (n2 : ∀ i, i < z → ∃ t, t < 12 ∧ σ.1 23 i = nI t) (b1 : b < 2) (b2 : σ.1 6 8 = nI b) (b3 : σ.1 20 5 = nI b) : VW σ z c kd on ot (fun i => (σ.1 23 i).toNatClampNeg) b := by
  have hz := h2.2.1
  refine ⟨h2, fun i hi => ?_, b1, b2, b3⟩
  obtain ⟨u, u1, u2⟩ := n2 i hi
  show (σ.1 23 i).toNatClampNeg < 12 ∧ σ.1 7 i = nI (σ.1 23 i).toNatClampNeg ∧ σ.1 23 i = nI (σ.1 23 i).toNatClampNeg
  rw [n1 i (by omega), u2, q_cl (by omega)]
  exact ⟨u1, rfl, rfl⟩
theorem addWalk_X {σ : ST} {i : Nat} (hi : i < 8) : f_X3_addWalk (nI i) σ = some (uI (uI σ 8 i (σ.1 8 i + 1)) 6 9 (σ.1 6 9 + 1)) := by
  rw [f_X3_addWalk, if_neg (nI_pos (by omega)), if_neg (show ¬ (8 : Int32) ≤ nI i from nI_ge (a := i) (b := 8) (by omega) (by decide)), if_pos (by rw [q_in (by omega)]; omega), if_pos (by rw [q_in (by omega)]; omega), q_cl (by omega), o_bs, o_bs]
  rfl
theorem sp_walk {t : Nat} {σ : ST} (h : Inv t σ) (a b c : Int32) : SP9 (Inv (t + 1)) σ a b c := by
  have hI := h
  obtain ⟨pn, z, cc, kd, on, ot, rd, wy, h1, h2, h3, h4, h5, h6⟩ := h
  have hz := h2.2.1
  have hc5 := h2.2.2.2.2.1
  have hz2 := h2.2.2.2.1
  obtain ⟨n1, n2, n3, ⟨g0, m0, t0, r0, e0, l0⟩, n5, ⟨cr, c1, c2, c3⟩, ⟨nb, b1, b2, b3⟩, ⟨w, w1, w2, w3⟩, n9⟩ := h3
  have v := vw_of h2 n1 n2 b1 b2 b3
  obtain ⟨tn, htn⟩ : ∃ tn, tn = fun i => (σ.1 23 i).toNatClampNeg := ⟨_, rfl⟩
  rw [← htn] at v
  have h8 := t0.1
  rcases street_both h2 a with ⟨i, ad, s1, rfl, s3, s4, s5⟩ | ⟨s3, s4⟩
  · have hw := v.row s1
    have hk := h2.2.2.2.2.2.2.2.2.2 i s1
    have hcr : cr < 5 := by omega
    by_cases q0 : m0 = 0
    · refine ⟨-103, σ, ?_, σ, ?_, inv_mono t σ hI⟩
      · rw [f_X10_walk, s4, o_bs]
        show (if σ.2.1 6 5 = 0 then _ else _) = _
        rw [l0, if_pos ((enc_ne0 t0).mpr q0)]
      · rw [f_X11_walk, s3, o_bs, if_neg (by decide), e0, if_pos (by rw [q0]; rfl)]
    · have x0 : ∀ X : Option (Int32 × ST), (if σ.2.1 6 5 = 0 then some (-103, σ) else X) = X := fun X => by rw [l0, if_neg (fun z => q0 ((enc_ne0 t0).mp z))]
      have y0 : ¬ σ.1 20 13 = 0 := by rw [e0]; exact nI_ne0 (by omega) (by omega)
      by_cases q1 : EN on ot i cr
      · by_cases q2 : OP kd nb g0 m0 i
        · by_cases q3 : w = 999
          · refine ⟨-104, σ, ?_, σ, ?_, inv_mono t σ hI⟩
            · rw [f_X10_walk, s4, o_bs]
              show (if σ.2.1 6 5 = 0 then some (-103, σ) else _) = _
              rw [x0, if_pos s5.1, c2, endsAt_V v s1 s5 (by omega), if_pos q1, o_bs, if_neg (by decide), s5.2.1, l0, v.2.2.2.1, open_V hw.1 t0 v.2.2.1, if_pos q2, o_bs, if_neg (by decide), w2, q3, if_neg (by decide)]
            · rw [f_X11_walk, s3, o_bs, if_neg (by decide), if_neg y0, c3, endsAt_M v s1 (by omega), if_pos q1, o_bs, if_neg (by decide), e0, isOpen_M v s1 t0 r0, if_pos q2, o_bs, if_neg (by decide), w3, q3, if_pos (by decide)]
          · obtain ⟨σ1, hσ1⟩ : ∃ σ1, σ1 = uI (uI (uI (uL σ 6 5 (enc (tr (kd i) (tn i) g0 m0) m0)) 6 7 (nI (on i + ot i - cr))) 8 i (σ.1 8 i + 1)) 6 9 (σ.1 6 9 + 1) := ⟨_, rfl⟩
            have v1 : VW σ1 z cc kd on ot tn nb := by rw [hσ1]; exact v
            have r25 : RW σ1 25 g0 m0 := by rw [hσ1]; exact r0
            have k20 : σ1.1 20 = σ.1 20 := by rw [hσ1]; rfl
            obtain ⟨σ2, hσ2⟩ : ∃ σ2, σ2 = uA σ1 25 (mx (σ1.1 25) (tr (kd i) (tn i) g0 m0) m0) := ⟨_, rfl⟩
            have v2 : VW σ2 z cc kd on ot tn nb := by rw [hσ2]; exact v1
            have k20' : σ2.1 20 = σ1.1 20 := by rw [hσ2]; rfl
            refine ⟨nI (on i + ot i - cr), σ1, ?_, uI (uI (uI σ2 20 4 (nI (on i + ot i - cr))) 20 6 (σ2.1 20 6 + 1)) 24 i (σ2.1 24 i + 1), ?_, ?_⟩
            · rw [f_X10_walk, s4, o_bs]
              show (if σ.2.1 6 5 = 0 then some (-103, σ) else _) = _
              rw [x0, if_pos s5.1, c2, endsAt_V v s1 s5 (by omega), if_pos q1, o_bs, if_neg (by decide), s5.2.1, l0, v.2.2.2.1, open_V hw.1 t0 v.2.2.1, if_pos q2, o_bs, if_neg (by decide), w2, if_pos (show nI w < 999 from nI_lt (a := w) (b := 999) (by omega) (by decide)), tonic_V v s1, o_bs, carry_X t0 (v.2.1 i s1).1 hw.1 s5.2.1, o_bs, o_bs, if_pos (show pv (uL σ 6 5 (enc (tr (kd i) (tn i) g0 m0) m0)) ad from s5.1)]
              show (f_X7_across ad σ (σ.1 6 7)).bind _ = _
              rw [c2, across_V v s1 s5 q1, o_bs, o_bs, addWalk_X (by omega), o_bs, hσ1]
              rfl
            · rw [f_X11_walk, show f_X11_isStreet σ1 (nI i) = f_X11_isStreet σ (nI i) by rw [hσ1]; rfl, s3, o_bs, if_neg (by decide), k20, if_neg y0, c3, endsAt_M v1 s1 (by omega), if_pos q1, o_bs, if_neg (by decide), e0, isOpen_M v1 s1 t0 r25, if_pos q2, o_bs, if_neg (by decide), w3, if_neg (show ¬ nI w = 999 from fun z => q3 ((nI_eq (b := 999) (by omega) (by decide)).mp z)), goStreet_M v1 s1 t0 (by omega) r25, o_bs, ← hσ2, k20', k20, c3, otherEnd_M v2 s1 q1, o_bs, o_bs, o_bs, if_pos (by rw [q_in (by omega)]; omega), if_pos (by rw [q_in (by omega)]; omega), q_cl (by omega), o_bs]
              subst hσ2; subst hσ1
              rfl
            · subst hσ2; subst hσ1
              have hcr' : on i + ot i - cr < cc := by omega
              refine ⟨pn, z, cc, kd, on, ot, rd, wy, h1, h2, ⟨n1, n2, fun j hj => ?_, ⟨tr (kd i) (tn i) g0 m0, m0, tr_TN t0, fun k hk => ?_, e0, rfl⟩, n5, ⟨on i + ot i - cr, Or.inl hcr', rfl, rfl⟩, ⟨nb, b1, b2, b3⟩, ⟨w + 1, by omega, ?_, ?_⟩, n9⟩, ⟨by omega, h4.2⟩, h5, h6⟩
              · show va_up (σ.1 8) i (σ.1 8 i + 1) j = va_up (σ.1 24) i (σ.1 24 i + 1) j
                by_cases q : j = i
                · subst q; rw [va_up_self, va_up_self, n3 j hj]
                · rw [va_up_ne _ _ q, va_up_ne _ _ q, n3 j hj]
              · show mx (σ.1 25) (tr (kd i) (tn i) g0 m0) m0 k = _
                rw [mx, if_pos hk]
              · show σ.1 6 9 + 1 = nI (w + 1)
                rw [w2, nI_1]
              · show σ.1 20 6 + 1 = nI (w + 1)
                rw [w3, nI_1]
        · refine ⟨-103, σ, ?_, σ, ?_, inv_mono t σ hI⟩
          · rw [f_X10_walk, s4, o_bs]
            show (if σ.2.1 6 5 = 0 then some (-103, σ) else _) = _
            rw [x0, if_pos s5.1, c2, endsAt_V v s1 s5 (by omega), if_pos q1, o_bs, if_neg (by decide), s5.2.1, l0, v.2.2.2.1, open_V hw.1 t0 v.2.2.1, if_neg q2, o_bs, if_pos rfl]
          · rw [f_X11_walk, s3, o_bs, if_neg (by decide), if_neg y0, c3, endsAt_M v s1 (by omega), if_pos q1, o_bs, if_neg (by decide), e0, isOpen_M v s1 t0 r0, if_neg q2, o_bs, if_pos rfl]
      · refine ⟨-103, σ, ?_, σ, ?_, inv_mono t σ hI⟩
        · rw [f_X10_walk, s4, o_bs]
          show (if σ.2.1 6 5 = 0 then some (-103, σ) else _) = _
          rw [x0, if_pos s5.1, c2, endsAt_V v s1 s5 (by omega), if_neg q1, o_bs, if_pos rfl]
        · rw [f_X11_walk, s3, o_bs, if_neg (by decide), if_neg y0, c3, endsAt_M v s1 (by omega), if_neg q1, o_bs, if_pos rfl]
  · exact ⟨-101, σ, by rw [f_X10_walk, s4]; rfl, σ, by rw [f_X11_walk, s3]; rfl, inv_mono t σ hI⟩
