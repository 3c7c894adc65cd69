/-! scratch: what no answer shows -/
def SE (σ τ : ST) : Prop := (∀ o, o ≠ 3 → o ≠ 12 → o ≠ 20 → o ≠ 27 → o ≠ 28 → o ≠ 29 → o ≠ 30 → o ≠ 31 → o ≠ 32 → o ≠ 34 → τ.1 o = σ.1 o) ∧ (∀ k, k ≠ 22 → k ≠ 26 → τ.1 20 k = σ.1 20 k) ∧ (∀ o, o ≠ 3 → o ≠ 13 → o ≠ 20 → τ.2.1 o = σ.2.1 o) ∧ τ.2.2 = σ.2.2
theorem SE.rf (σ : ST) : SE σ σ := ⟨fun _ _ _ _ _ _ _ _ _ _ _ => rfl, fun _ _ _ => rfl, fun _ _ _ _ => rfl, rfl⟩
theorem SE.tr {σ τ υ : ST} (h : SE σ τ) (k : SE τ υ) : SE σ υ := ⟨fun o a b c d e f g i j l => (k.1 o a b c d e f g i j l).trans (h.1 o a b c d e f g i j l), fun j a b => (k.2.1 j a b).trans (h.2.1 j a b), fun o a b c => (k.2.2.1 o a b c).trans (h.2.2.1 o a b c), k.2.2.2.trans h.2.2.2⟩
theorem SE.uA (σ : ST) (o : Nat) (f : Nat → Int32) (h : o = 12 ∨ o = 27 ∨ o = 28 ∨ o = 29 ∨ o = 30 ∨ o = 31 ∨ o = 32 ∨ o = 34) : SE σ (uA σ o f) := ⟨fun o' _ _ _ _ _ _ _ _ _ _ => va_up_ne _ _ (by omega), fun k _ _ => congrFun (va_up_ne _ _ (by omega)) k, fun _ _ _ _ => rfl, rfl⟩
theorem SE.inv {t : Nat} {σ τ : ST} (h : SE σ τ) (hI : Inv t σ) : Inv t τ := by
  obtain ⟨h1, h2, h3, h4⟩ := h
  unfold Inv at hI ⊢
  have e : ∀ o, o ∈ [0, 1, 2, 4, 6, 7, 8, 9, 10, 11, 14, 15, 16, 17, 18, 19, 21, 22, 23, 24, 25, 26, 33, 35, 36, 37, 38, 39] → τ.1 o = σ.1 o := fun o ho => by
    apply h1 o <;> (intro q; subst q; revert ho; decide)
  have e2 : ∀ k, k ∈ [1, 2, 3, 4, 5, 6, 7, 13, 14, 20, 23, 27, 28, 29, 30, 31, 32, 33] → τ.1 20 k = σ.1 20 k := fun k hk => by
    apply h2 k <;> (intro q; subst q; revert hk; decide)
  rw [e 0 (by decide), e 1 (by decide), e 2 (by decide), e 4 (by decide), e 6 (by decide), e 7 (by decide), e 8 (by decide), e 9 (by decide), e 10 (by decide), e 11 (by decide), e 14 (by decide), e 15 (by decide), e 16 (by decide), e 17 (by decide), e 18 (by decide), e 19 (by decide), e 21 (by decide), e 22 (by decide), e 23 (by decide), e 24 (by decide), e 25 (by decide), e 26 (by decide), e 33 (by decide), e 35 (by decide), e 36 (by decide), e 37 (by decide), e 38 (by decide), e 39 (by decide),
    e2 1 (by decide), e2 2 (by decide), e2 3 (by decide), e2 4 (by decide), e2 5 (by decide), e2 6 (by decide), e2 7 (by decide), e2 13 (by decide), e2 14 (by decide), e2 20 (by decide), e2 23 (by decide), e2 27 (by decide), e2 28 (by decide), e2 29 (by decide), e2 30 (by decide), e2 31 (by decide), e2 32 (by decide), e2 33 (by decide),
    h3 6 (by decide) (by decide) (by decide), h3 14 (by decide) (by decide) (by decide), h4]
  exact hI
/-! stand() -/
theorem sp_stand {t : Nat} {σ : ST} (h : Inv t σ) (a b c : Int32) : SP10 (Inv (t + 1)) σ a b c := by
  have hI := h
  obtain ⟨pn, z, cc, kd, on, ot, rd, wy, h1, h2, h3, h4, h5, h6⟩ := h
  obtain ⟨l1, l2⟩ := lacks_M h2
  have hc := h2
  obtain ⟨d1, d2, d3, d4, d5, d6, d7, d8, d9, d10⟩ := hc
  obtain ⟨n1, n2, n3, n4, n5, ⟨cr, r1, r2, r3⟩, n7⟩ := h3
  by_cases q : z = 0
  · have hcc := d3 q
    refine ⟨-101, σ, ?_, σ, by rw [f_X11_stand, l1, if_pos q]; rfl, inv_mono t σ hI⟩
    rw [f_X10_stand, d6, hcc]
    by_cases qa : a < 0
    · rw [if_pos qa]
    · rw [if_neg qa, if_neg (show ¬ a < nI 0 from qa)]
  · rw [if_neg q] at l1
    rcases in0_M (x := a) (hi := (nI cc - 1).toInt64) (n := cc) (pred64 (by omega)) (by omega) with ⟨j, q1, q2, q3⟩ | ⟨q1, q3⟩
    · subst q2
      refine ⟨nI cr, uI σ 6 7 (nI j), ?_, uI (uI σ 6 7 (nI j)) 20 4 (nI j), ?_, ?_⟩
      · rw [f_X10_stand, if_neg (nI_pos (by omega)), d6, if_pos (nI_lt q1 (by omega)), o_bs, o_bs, r2]
      · rw [f_X11_stand, show f_X11_lacks (uI σ 6 7 (nI j)) = f_X11_lacks σ from rfl, l1, o_bs, if_pos rfl, show (uI σ 6 7 (nI j)).1 20 2 = σ.1 20 2 from rfl, d7, q3, o_bs, if_neg (by decide), o_bs, o_bs, show (uI σ 6 7 (nI j)).1 20 4 = σ.1 20 4 from rfl, r3]
      · exact ⟨pn, z, cc, kd, on, ot, rd, wy, h1, h2, ⟨n1, n2, n3, n4, n5, ⟨j, Or.inl q1, rfl, rfl⟩, n7⟩, ⟨by omega, h4.2⟩, h5, h6⟩
    · refine ⟨-101, σ, ?_, σ, by rw [f_X11_stand, l1, o_bs, if_pos rfl, d7, q3]; rfl, inv_mono t σ hI⟩
      rw [f_X10_stand, d6]
      rcases q1 with q1 | q1
      · rw [if_pos q1]
      · by_cases qa : a < 0
        · rw [if_pos qa]
        · rw [if_neg qa, if_neg (Int32.not_lt.mpr q1)]
/-! apart() -/
theorem many0 {n : Nat} (hn : n ≤ 8) : (nI n ≤ 0) ↔ n = 0 := by
  constructor
  · intro h; rcases Nat.eq_zero_or_pos n with q | q
    · exact q
    · exact absurd h (nI_nle q (by omega))
  · rintro rfl; decide
theorem both_M {σ : ST} {g0 g1 : Nat → Nat} {n0 n1 : Nat} (h0 : TN g0 n0) (h1 : TN g1 n1) (e0 : σ.1 20 13 = nI n0) (e1 : σ.1 20 14 = nI n1) (l0 : σ.2.1 6 5 = enc g0 n0) (l1 : σ.2.1 6 6 = enc g1 n1) : f_X11_areBoth σ = some (if n0 = 0 ∨ n1 = 0 then 0 else 1) ∧ f_X10_noTunes σ = some (if n0 = 0 ∨ n1 = 0 then 1 else 0) := by
  have a0 := h0.1
  have a1 := h1.1
  rw [f_X11_areBoth, f_X10_noTunes, e0, e1, l0, l1, q_if (many0 a0), q_if (many0 a1), q_if (enc_ne0 h0), q_if (enc_ne0 h1)]
  by_cases q0 : n0 = 0 <;> by_cases q1 : n1 = 0 <;> simp [q0, q1]
theorem sp_apart {t : Nat} {σ : ST} (h : Inv t σ) (a b c : Int32) : SP16 (Inv (t + 1)) σ a b c := by
  have hI := h
  obtain ⟨pn, z, cc, kd, on, ot, rd, wy, h1, h2, h3, h4, h5, h6⟩ := h
  obtain ⟨n1, n2, n3, ⟨g0, m0, t0, r0, e0, l0⟩, ⟨g1, m1, t1, r1, e1, l1⟩, n6⟩ := h3
  obtain ⟨b1, b2⟩ := both_M t0 t1 e0 e1 l0 l1
  by_cases q : m0 = 0 ∨ m1 = 0
  · rw [if_pos q] at b1 b2
    exact ⟨-103, by rw [f_X10_apart, b2]; rfl, by rw [f_X11_apart, b1]; rfl, inv_mono t σ hI⟩
  · rw [if_neg q] at b1 b2
    refine ⟨nI (apt g0 m0 g1 m1), ?_, ?_, inv_mono t σ hI⟩
    · rw [f_X10_apart, b2, o_bs, if_pos rfl, l0, l1, unlike_X t0 t1, o_bs]
    · rw [f_X11_apart, b1, o_bs, if_neg (by decide), e0, e1, apart_M t0 t1 r0 r1, o_bs]
/-! raise() -/
theorem sp_raise {t : Nat} {σ : ST} (h : Inv t σ) (a b c : Int32) : SP13 (Inv (t + 1)) σ a b c := by
  have hI := h
  obtain ⟨pn, z, cc, kd, on, ot, rd, wy, h1, h2, h3, h4, h5, h6⟩ := h
  have hz := h2.2.1
  obtain ⟨n1, n2, n3, n4⟩ := h3
  rcases street_both h2 a with ⟨i, ad, s1, rfl, s3, s4, s5⟩ | ⟨s3, s4⟩
  · rcases isNote_both b with ⟨x, x1, rfl, x3, x4⟩ | ⟨x3, x4⟩
    · have et : f_X3_tonic σ (nI i) = some (σ.1 7 i) := by
        rw [f_X3_tonic, if_neg (nI_pos (by omega)), if_neg (show ¬ (8 : Int32) ≤ nI i from nI_ge (a := i) (b := 8) (by omega) (by decide)), if_pos (by rw [q_in (by omega)]; omega), q_cl (by omega)]
      have es : f_X3_setTonic (nI i) (nI x) σ = some (uI σ 7 i (nI x)) := by
        rw [f_X3_setTonic, if_neg (nI_pos (by omega)), if_neg (show ¬ (8 : Int32) ≤ nI i from nI_ge (a := i) (b := 8) (by omega) (by decide)), if_pos (by rw [q_in (by omega)]; omega), q_cl (by omega), o_bs]
      refine ⟨σ.1 7 i, uI σ 7 i (nI x), ?_, uI (uI σ 7 i (nI x)) 23 i (nI x), ?_, ?_⟩
      · rw [f_X10_raise, s4, o_bs]
        show ((f_X10_isNote (nI x)).bind _) = _
        rw [x4, o_bs, if_neg (by decide), et, o_bs, es, o_bs]
      · rw [f_X11_raise, show f_X11_isStreet (uI σ 7 i (nI x)) (nI i) = f_X11_isStreet σ (nI i) from rfl, s3, o_bs, if_neg (by decide), x3, o_bs, if_neg (by decide), if_pos (by rw [q_in (by omega)]; omega), o_bs, if_pos (by rw [q_in (by omega)]; omega), q_cl (by omega), o_bs, show (uI σ 7 i (nI x)).1 23 i = σ.1 23 i from rfl, n1 i (by omega)]
      · refine ⟨pn, z, cc, kd, on, ot, rd, wy, h1, h2, ⟨fun j hj => ?_, fun j hj => ?_, n3, n4⟩, ⟨by omega, h4.2⟩, h5, h6⟩
        · show va_up (σ.1 7) i (nI x) j = va_up (σ.1 23) i (nI x) j
          by_cases q : j = i
          · subst q; rw [va_up_self, va_up_self]
          · rw [va_up_ne _ _ q, va_up_ne _ _ q, n1 j hj]
        · show ∃ u, u < 12 ∧ va_up (σ.1 23) i (nI x) j = nI u
          by_cases q : j = i
          · subst q; exact ⟨x, x1, va_up_self _ _ _⟩
          · rw [va_up_ne _ _ q]; exact n2 j hj
    · refine ⟨-102, σ, ?_, σ, by rw [f_X11_raise, s3, o_bs, if_neg (by decide), x3]; rfl, inv_mono t σ hI⟩
      rw [f_X10_raise, s4, o_bs]
      show ((f_X10_isNote b).bind _) = _
      rw [x4, o_bs, if_pos rfl]
  · exact ⟨-101, σ, by rw [f_X10_raise, s4]; rfl, σ, by rw [f_X11_raise, s3]; rfl, inv_mono t σ hI⟩
