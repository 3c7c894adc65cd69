/-! image(), restore() -/
theorem cpy0 {f g : Nat → Int32} {n k : Nat} (h : k < n) : va_cpy f g 0 0 n k = f k := by
  rw [pk_cpy_in (Nat.zero_le k) (by omega)]; congr 1; omega
theorem copyI_X {σ : ST} (hb : σ.1 6 8 = 0 ∨ σ.1 6 8 = 1) : ∃ τ, f_X3_copyI σ = some τ ∧ (∀ o, o ≠ 14 → o ≠ 15 → o ≠ 16 → o ≠ 17 → o ≠ 18 → o ≠ 19 → τ.1 o = σ.1 o) ∧ (∀ k, k < 8 → τ.1 15 k = σ.1 7 k ∧ τ.1 16 k = σ.1 8 k) ∧ (∀ k, k < 6 → τ.1 17 k = σ.1 9 k ∧ τ.1 18 k = σ.1 10 k ∧ τ.1 19 k = σ.1 11 k) ∧ (τ.1 14 7 = σ.1 6 7 ∧ τ.1 14 8 = σ.1 6 8 ∧ τ.1 14 9 = σ.1 6 9 ∧ τ.1 14 10 = σ.1 6 10) ∧ τ.2.1 14 5 = σ.2.1 6 5 ∧ τ.2.1 14 6 = σ.2.1 6 6 ∧ τ.2.1 6 = σ.2.1 6 ∧ τ.2.2 = σ.2.2 := by
  apply Exists.intro; apply And.intro
  · rw [f_X3_copyI, o_bs, o_bs, o_bs, o_bs, o_bs, o_bs, o_bs, o_bs, if_pos (by exact hb), o_bs, o_bs, o_bs]
  refine ⟨fun o h1 h2 h3 h4 h5 h6 => ?_, fun k hk => ⟨?_, ?_⟩, fun k hk => ⟨?_, ?_, ?_⟩, ⟨rfl, rfl, rfl, rfl⟩, rfl, rfl, rfl, rfl⟩
  · simp only [uI, uA, uL, va_up, h1, h2, h3, h4, h5, h6, if_false]
  · exact cpy0 (f := σ.1 7) (g := σ.1 15) hk
  · exact cpy0 (f := σ.1 8) (g := σ.1 16) hk
  · exact cpy0 (f := σ.1 9) (g := σ.1 17) hk
  · exact cpy0 (f := σ.1 10) (g := σ.1 18) hk
  · exact cpy0 (f := σ.1 11) (g := σ.1 19) hk
theorem copy_X {σ : ST} (hb : σ.1 14 8 = 0 ∨ σ.1 14 8 = 1) : ∃ τ, f_X3_copy σ = some τ ∧ (∀ o, o ≠ 6 → o ≠ 7 → o ≠ 8 → o ≠ 9 → o ≠ 10 → o ≠ 11 → τ.1 o = σ.1 o) ∧ (∀ k, k < 8 → τ.1 7 k = σ.1 15 k ∧ τ.1 8 k = σ.1 16 k) ∧ (∀ k, k < 6 → τ.1 9 k = σ.1 17 k ∧ τ.1 10 k = σ.1 18 k ∧ τ.1 11 k = σ.1 19 k) ∧ (τ.1 6 7 = σ.1 14 7 ∧ τ.1 6 8 = σ.1 14 8 ∧ τ.1 6 9 = σ.1 14 9 ∧ τ.1 6 10 = σ.1 14 10) ∧ τ.2.1 6 5 = σ.2.1 14 5 ∧ τ.2.1 6 6 = σ.2.1 14 6 ∧ τ.2.1 14 = σ.2.1 14 ∧ τ.2.2 = σ.2.2 := by
  apply Exists.intro; apply And.intro
  · rw [f_X3_copy, o_bs, o_bs, o_bs, o_bs, o_bs, o_bs, o_bs, o_bs, if_pos (by exact hb), o_bs, o_bs, o_bs]
  refine ⟨fun o h1 h2 h3 h4 h5 h6 => ?_, fun k hk => ⟨?_, ?_⟩, fun k hk => ⟨?_, ?_, ?_⟩, ⟨rfl, rfl, rfl, rfl⟩, rfl, rfl, rfl, rfl⟩
  · simp only [uI, uA, uL, va_up, h1, h2, h3, h4, h5, h6, if_false]
  · exact cpy0 (f := σ.1 15) (g := σ.1 7) hk
  · exact cpy0 (f := σ.1 16) (g := σ.1 8) hk
  · exact cpy0 (f := σ.1 17) (g := σ.1 9) hk
  · exact cpy0 (f := σ.1 18) (g := σ.1 10) hk
  · exact cpy0 (f := σ.1 19) (g := σ.1 11) hk
theorem image_M {σ : ST} (hb : σ.1 20 5 = 0 ∨ σ.1 20 5 = 1) (hl : f_X11_lacks σ = some 0) : ∃ τ, f_X11_image σ = some (σ.1 20 6, τ) ∧ (∀ o, o ≠ 20 → o ≠ 35 → o ≠ 36 → o ≠ 37 → o ≠ 38 → o ≠ 39 → τ.1 o = σ.1 o) ∧ (∀ k, k < 8 → τ.1 35 k = σ.1 23 k ∧ τ.1 36 k = σ.1 24 k ∧ τ.1 37 k = σ.1 25 k ∧ τ.1 38 k = σ.1 26 k) ∧ (∀ k, k < 18 → τ.1 39 k = σ.1 33 k) ∧ (∀ k, k < 27 → τ.1 20 k = σ.1 20 k) ∧ (τ.1 20 28 = σ.1 20 4 ∧ τ.1 20 29 = σ.1 20 5 ∧ τ.1 20 30 = σ.1 20 6 ∧ τ.1 20 31 = σ.1 20 13 ∧ τ.1 20 32 = σ.1 20 14 ∧ τ.1 20 33 = σ.1 20 23 ∧ τ.1 20 27 = σ.1 20 7) ∧ τ.2 = σ.2 := by
  apply Exists.intro; apply And.intro
  · rw [f_X11_image, hl, o_bs, if_pos rfl, copy_M (by decide) (by decide) (by decide), o_bs, copy_M (by decide) (by decide) (by decide), o_bs, copy_M (by decide) (by decide) (by decide), o_bs, copy_M (by decide) (by decide) (by decide), o_bs, copy_M (by decide) (by decide) (by decide), o_bs, o_bs, if_pos (by exact hb), o_bs, o_bs, o_bs, o_bs, o_bs, o_bs]; rfl
  refine ⟨fun o h1 h2 h3 h4 h5 h6 => ?_, fun k hk => ⟨?_, ?_, ?_, ?_⟩, fun k hk => ?_, fun k hk => ?_, ⟨rfl, rfl, rfl, rfl, rfl, rfl, rfl⟩, rfl⟩
  · simp only [uI, uA, uL, va_up, h1, h2, h3, h4, h5, h6, if_false]
  · exact if_pos hk
  · exact if_pos hk
  · exact if_pos hk
  · exact if_pos hk
  · exact if_pos hk
  · have q : ∀ j, 27 ≤ j → ¬ k = j := fun j hj => by omega
    simp [uI, uA, va_up, q]
theorem restore_M {σ : ST} (hb : σ.1 20 29 = 0 ∨ σ.1 20 29 = 1) (hl : σ.1 20 27 = σ.1 20 7) : ∃ τ, f_X11_restore σ = some (σ.1 20 30, τ) ∧ (∀ o, o ≠ 20 → o ≠ 23 → o ≠ 24 → o ≠ 25 → o ≠ 26 → o ≠ 33 → τ.1 o = σ.1 o) ∧ (∀ k, k < 8 → τ.1 23 k = σ.1 35 k ∧ τ.1 24 k = σ.1 36 k ∧ τ.1 25 k = σ.1 37 k ∧ τ.1 26 k = σ.1 38 k) ∧ (∀ k, k < 18 → τ.1 33 k = σ.1 39 k) ∧ (∀ k, k ∈ [1, 2, 3, 7, 20, 27, 28, 29, 30, 31, 32, 33] → τ.1 20 k = σ.1 20 k) ∧ (τ.1 20 4 = σ.1 20 28 ∧ τ.1 20 5 = σ.1 20 29 ∧ τ.1 20 6 = σ.1 20 30 ∧ τ.1 20 13 = σ.1 20 31 ∧ τ.1 20 14 = σ.1 20 32 ∧ τ.1 20 23 = σ.1 20 33) ∧ τ.2 = σ.2 := by
  apply Exists.intro; apply And.intro
  · rw [f_X11_restore, if_pos hl, copy_M (by decide) (by decide) (by decide), o_bs, copy_M (by decide) (by decide) (by decide), o_bs, copy_M (by decide) (by decide) (by decide), o_bs, copy_M (by decide) (by decide) (by decide), o_bs, copy_M (by decide) (by decide) (by decide), o_bs, o_bs, if_pos (by exact hb), o_bs, o_bs, o_bs, o_bs, o_bs]; rfl
  refine ⟨fun o h1 h2 h3 h4 h5 h6 => ?_, fun k hk => ⟨?_, ?_, ?_, ?_⟩, fun k hk => ?_, fun k hk => ?_, ⟨rfl, rfl, rfl, rfl, rfl, rfl⟩, rfl⟩
  · simp only [uI, uA, uL, va_up, h1, h2, h3, h4, h5, h6, if_false]
  · exact if_pos hk
  · exact if_pos hk
  · exact if_pos hk
  · exact if_pos hk
  · exact if_pos hk
  · have q : ∀ j, j ∈ [4, 5, 6, 13, 14, 23] → ¬ k = j := fun j hj e => by
      subst e; revert hj hk; revert k; decide
    simp [uI, uA, va_up, q]
/-- one now is another, where the second's cells hold what the first's do -/
theorem NW.mv {z c : Nat} {xi xi' : Nat → Int32} {xl xl' : Nat → Int64} {xt xw x9 x10 x11 xt' xw' x9' x10' x11' : Nat → Int32} {mcr mni mwk m0 m1 msn mcr' mni' mwk' m0' m1' msn' : Int32} {mt mw mf mg ms mt' mw' mf' mg' ms' : Nat → Int32} (hz : z ≤ 8)
    (h : NW z c xi xl xt xw x9 x10 x11 mcr mni mwk m0 m1 msn mt mw mf mg ms)
    (a1 : ∀ k, k < 8 → xt' k = xt k ∧ xw' k = xw k) (a2 : ∀ k, k < 6 → x9' k = x9 k ∧ x10' k = x10 k ∧ x11' k = x11 k) (a3 : xi' 7 = xi 7 ∧ xi' 8 = xi 8 ∧ xi' 9 = xi 9 ∧ xi' 10 = xi 10) (a4 : xl' 5 = xl 5) (a5 : xl' 6 = xl 6)
    (b1 : ∀ k, k < 8 → mt' k = mt k ∧ mw' k = mw k ∧ mf' k = mf k ∧ mg' k = mg k) (b2 : ∀ k, k < 18 → ms' k = ms k) (b3 : mcr' = mcr ∧ mni' = mni ∧ mwk' = mwk ∧ m0' = m0 ∧ m1' = m1 ∧ msn' = msn) :
    NW z c xi' xl' xt' xw' x9' x10' x11' mcr' mni' mwk' m0' m1' msn' mt' mw' mf' mg' ms' := by
  obtain ⟨n1, n2, n3, ⟨g0, k0, t0, r0, e0, l0⟩, ⟨g1, k1, t1, r1, e1, lg⟩, ⟨cr, c1, c2, c3⟩, ⟨b0, d1, d2, d3⟩, ⟨w, w1, w2, w3⟩, ⟨m, s1, s2, s3, s4⟩⟩ := h
  obtain ⟨y1, y2, y3, y4, y5, y6⟩ := b3
  have u0 := t0.1
  have u1 := t1.1
  refine ⟨fun i hi => ?_, fun i hi => ?_, fun i hi => ?_, ⟨g0, k0, t0, fun k hk => ?_, y4.trans e0, a4.trans l0⟩, ⟨g1, k1, t1, fun k hk => ?_, y5.trans e1, a5.trans lg⟩, ⟨cr, c1, a3.1.trans c2, y1.trans c3⟩, ⟨b0, d1, a3.2.1.trans d2, y2.trans d3⟩, ⟨w, w1, a3.2.2.1.trans w2, y3.trans w3⟩, m, s1, a3.2.2.2.trans s2, y6.trans s3, fun i hi => ?_⟩
  · rw [(a1 i hi).1, (b1 i hi).1, n1 i hi]
  · obtain ⟨u, v1, v2⟩ := n2 i hi
    exact ⟨u, v1, (b1 i (by omega)).1.trans v2⟩
  · rw [(a1 i (by omega)).2, (b1 i (by omega)).2.1, n3 i hi]
  · exact (b1 k (by omega)).2.2.1.trans (r0 k hk)
  · exact (b1 k (by omega)).2.2.2.trans (r1 k hk)
  · rw [(a2 i (by omega)).1, (a2 i (by omega)).2.1, (a2 i (by omega)).2.2, b2 (3 * i) (by omega), b2 (3 * i + 1) (by omega), b2 (3 * i + 2) (by omega)]
    exact s4 i hi
theorem bool_or {b : Nat} {x : Int32} (h : b < 2) (e : x = nI b) : x = 0 ∨ x = 1 := by
  rcases (show b = 0 ∨ b = 1 by omega) with rfl | rfl
  · exact Or.inl e
  · exact Or.inr e
theorem sp_image {t : Nat} {σ : ST} (h : Inv t σ) (a b c : Int32) : SP21 (Inv (t + 1)) σ a b c := by
  have hI := h
  obtain ⟨pn, z, cc, kd, on, ot, rd, wy, h1, h2, h3, h4, h5, h6⟩ := h
  have hz := h2.2.1
  obtain ⟨l1, l2⟩ := lacks_M h2
  by_cases q : z = 0
  · rw [if_pos q] at l1 l2
    exact ⟨-103, σ, by rw [f_X10_image, l2]; rfl, σ, by rw [f_X11_image, l1]; rfl, inv_mono t σ hI⟩
  · rw [if_neg q] at l1 l2
    have h3' := h3
    obtain ⟨n1, n2, n3, n4, n5, n6, ⟨b0, d1, d2, d3⟩, ⟨w, w1, w2, w3⟩, n9⟩ := h3
    obtain ⟨τ, e1, p1, p2, p3, p4, p5, p6, p7, p8⟩ := copyI_X (bool_or d1 d2)
    have p1' : ∀ o, o ∈ [0, 1, 2, 4, 6, 7, 8, 9, 10, 11, 20, 21, 22, 23, 24, 25, 26, 33] → τ.1 o = σ.1 o := fun o ho => by
      apply p1 o <;> (intro q; subst q; revert ho; decide)
    obtain ⟨υ, e2, r1, r2, r3, r4, r5, r6⟩ := image_M (σ := uI τ 0 6 (τ.1 0 5)) (by
      show τ.1 20 5 = 0 ∨ τ.1 20 5 = 1
      rw [p1' 20 (by decide)]; exact bool_or d1 d3) (by
      show f_X11_lacks τ = some 0
      rw [f_X11_lacks, p1' 20 (by decide), ← f_X11_lacks, l1])
    have r1' : ∀ o, o ∈ [0, 1, 2, 4, 6, 7, 8, 9, 10, 11, 14, 15, 16, 17, 18, 19, 21, 22, 23, 24, 25, 26, 33] → υ.1 o = (uI τ 0 6 (τ.1 0 5)).1 o := fun o ho => by
      apply r1 o <;> (intro q; subst q; revert ho; decide)
    have k0 : ∀ o, o ∈ [1, 2, 4, 6, 7, 8, 9, 10, 11, 14, 15, 16, 17, 18, 19, 20, 21, 22, 23, 24, 25, 26, 33] → (uI τ 0 6 (τ.1 0 5)).1 o = τ.1 o := fun o ho => va_up_ne _ _ (by intro q; subst q; revert ho; decide)
    have f1 : ∀ o, o ∈ [1, 2, 4, 6, 7, 8, 9, 10, 11, 21, 22, 23, 24, 25, 26, 33] → υ.1 o = σ.1 o := fun o ho => by
      rw [r1' o (by revert ho; revert o; decide), k0 o (by revert ho; revert o; decide), p1' o (by revert ho; revert o; decide)]
    have f2 : ∀ k, k < 27 → υ.1 20 k = σ.1 20 k := fun k hk => by
      rw [r4 k hk, k0 20 (by decide), p1' 20 (by decide)]
    have g0 : υ.1 0 5 = σ.1 0 5 := by
      rw [r1' 0 (by decide)]
      show τ.1 0 5 = _
      rw [p1' 0 (by decide)]
    have g1 : υ.1 0 7 = σ.1 0 7 := by
      rw [r1' 0 (by decide)]
      show τ.1 0 7 = _
      rw [p1' 0 (by decide)]
    have g2 : υ.1 0 6 = σ.1 0 5 := by
      rw [r1' 0 (by decide)]
      show τ.1 0 5 = _
      rw [p1' 0 (by decide)]
    have k1 : ∀ o, o ∈ [14, 15, 16, 17, 18, 19] → υ.1 o = τ.1 o := fun o ho => by
      rw [r1' o (by revert ho; revert o; decide), k0 o (by revert ho; revert o; decide)]
    have k2 : ∀ o, o ∈ [20, 23, 24, 25, 26, 33] → (uI τ 0 6 (τ.1 0 5)).1 o = σ.1 o := fun o ho => by
      rw [k0 o (by revert ho; revert o; decide), p1' o (by revert ho; revert o; decide)]
    have k3 : υ.2 = τ.2 := r6
    have k4 : υ.2.2 = σ.2.2 := by rw [k3, p8]
    have k5 : υ.2.1 6 = σ.2.1 6 := by rw [k3, p7]
    refine ⟨nI w, uI τ 0 6 (τ.1 0 5), ?_, υ, ?_, ?_⟩
    · rw [f_X10_image, l2, o_bs, if_pos rfl, e1, o_bs, o_bs]
      show some (τ.1 6 9, _) = _
      rw [p1' 6 (by decide), w2]
    · rw [e2]
      show some (τ.1 20 6, _) = _
      rw [p1' 20 (by decide), w3]
    · unfold Inv
      refine ⟨pn, z, cc, kd, on, ot, rd, wy, ?_, ?_, ?_, ?_, ?_, ?_⟩
      · rw [f1 1 (by decide), f1 2 (by decide), f1 21 (by decide), f2 1 (by decide)]; exact h1
      · rw [f1 4 (by decide), f1 22 (by decide), f2 2 (by decide), f2 3 (by decide), k4]; exact h2
      · rw [f1 6 (by decide), k5, f1 7 (by decide), f1 8 (by decide), f1 9 (by decide), f1 10 (by decide), f1 11 (by decide), f2 4 (by decide), f2 5 (by decide), f2 6 (by decide), f2 13 (by decide), f2 14 (by decide), f2 23 (by decide), f1 23 (by decide), f1 24 (by decide), f1 25 (by decide), f1 26 (by decide), f1 33 (by decide)]; exact h3'
      · exact ⟨by omega, g0.trans h4.2.1, (f2 7 (by decide)).trans h4.2.2.1, h4.2.2.2⟩
      · exact ⟨h5.1, g1.trans h5.2.1, (f2 20 (by decide)).trans h5.2.2⟩
      · refine Or.inr ⟨rd, h4.2.2.2 q, Nat.le_refl rd, g2.trans h4.2.1, ?_, fun _ => ?_⟩
        · rw [r5.2.2.2.2.2.2, k2 20 (by decide)]; exact h4.2.2.1
        · refine NW.mv hz h3' (fun k hk => ?_) (fun k hk => ?_) ?_ ?_ ?_ (fun k hk => ?_) (fun k hk => ?_) ?_
          · rw [k1 15 (by decide), k1 16 (by decide)]; exact p2 k hk
          · rw [k1 17 (by decide), k1 18 (by decide), k1 19 (by decide)]; exact p3 k hk
          · rw [k1 14 (by decide)]; exact p4
          · rw [k3]; exact p5
          · rw [k3]; exact p6
          · have := r2 k hk
            rw [k2 23 (by decide), k2 24 (by decide), k2 25 (by decide), k2 26 (by decide)] at this; exact this
          · have := r3 k hk
            rw [k2 33 (by decide)] at this; exact this
          · have := r5
            rw [k2 20 (by decide)] at this
            exact ⟨this.1, this.2.1, this.2.2.1, this.2.2.2.1, this.2.2.2.2.1, this.2.2.2.2.2.1⟩
theorem sp_restore {t : Nat} {σ : ST} (h : Inv t σ) (a b c : Int32) (ht : t ≤ 512) : SP22 (Inv (t + 1)) σ a b c := by
  have hI := h
  obtain ⟨pn, z, cc, kd, on, ot, rd, wy, h1, h2, h3, h4, h5, h6⟩ := h
  have hz := h2.2.1
  have h6' := h6
  have r1 := h4.1
  rcases h6 with ⟨i1, i2⟩ | ⟨j, j1, j2, j3, j4, j5⟩
  · refine ⟨-103, σ, by rw [f_X10_restore, if_pos i1], σ, ?_, inv_mono t σ hI⟩
    rw [f_X11_restore, i2, h4.2.2.1, if_neg (fun z => by
      have := z.symm
      rw [q_m1 (by omega)] at this; exact this)]
  · by_cases q : j = rd
    · subst q
      have hN := j5 rfl
      have hN' := hN
      obtain ⟨n1, n2, n3, n4, n5, n6, ⟨b0, d1, d2, d3⟩, ⟨w, w1, w2, w3⟩, n9⟩ := hN
      obtain ⟨τ, e1, p1, p2, p3, p4, p5, p6, p7, p8⟩ := copy_X (bool_or d1 d2)
      have p1' : ∀ o, o ∈ [0, 1, 2, 4, 14, 15, 16, 17, 18, 19, 20, 21, 22, 23, 24, 25, 26, 33, 35, 36, 37, 38, 39] → τ.1 o = σ.1 o := fun o ho => by
        apply p1 o <;> (intro q; subst q; revert ho; decide)
      obtain ⟨υ, e2, s1, s2, s3, s4, s5, s6⟩ := restore_M (σ := τ) (by
        rw [p1' 20 (by decide)]; exact bool_or d1 d3) (by
        rw [p1' 20 (by decide)]; rw [j4, h4.2.2.1])
      have s1' : ∀ o, o ∈ [0, 1, 2, 4, 6, 7, 8, 9, 10, 11, 14, 15, 16, 17, 18, 19, 21, 22, 35, 36, 37, 38, 39] → υ.1 o = τ.1 o := fun o ho => by
        apply s1 o <;> (intro q; subst q; revert ho; decide)
      have f1 : ∀ o, o ∈ [0, 1, 2, 4, 14, 15, 16, 17, 18, 19, 21, 22, 35, 36, 37, 38, 39] → υ.1 o = σ.1 o := fun o ho => by
        rw [s1' o (by revert ho; revert o; decide), p1' o (by revert ho; revert o; decide)]
      have f2 : ∀ k, k ∈ [1, 2, 3, 7, 20, 27, 28, 29, 30, 31, 32, 33] → υ.1 20 k = σ.1 20 k := fun k hk => by
        rw [s4 k hk, p1' 20 (by decide)]
      have k4 : υ.2.2 = σ.2.2 := by rw [s6, p8]
      refine ⟨nI w, τ, ?_, υ, ?_, ?_⟩
      · rw [f_X10_restore, if_neg (show ¬ σ.1 0 6 = 0 by rw [j3]; exact nI_ne0 (by omega) (by omega)), if_pos (show σ.1 0 6 = σ.1 0 5 by rw [j3, h4.2.1]), e1, o_bs, p4.2.2.1, w2]
      · rw [e2, p1' 20 (by decide), w3]
      · unfold Inv
        refine ⟨pn, z, cc, kd, on, ot, j, wy, ?_, ?_, ?_, ?_, ?_, ?_⟩
        · rw [f1 1 (by decide), f1 2 (by decide), f1 21 (by decide), f2 1 (by decide)]; exact h1
        · rw [f1 4 (by decide), f1 22 (by decide), f2 2 (by decide), f2 3 (by decide), k4]; exact h2
        · refine NW.mv hz hN' (fun k hk => ?_) (fun k hk => ?_) ?_ ?_ ?_ (fun k hk => ?_) (fun k hk => ?_) ?_
          · rw [s1' 7 (by decide), s1' 8 (by decide)]; exact p2 k hk
          · rw [s1' 9 (by decide), s1' 10 (by decide), s1' 11 (by decide)]; exact p3 k hk
          · rw [s1' 6 (by decide)]; exact p4
          · rw [s6]; exact p5
          · rw [s6]; exact p6
          · have := s2 k hk
            rw [p1' 35 (by decide), p1' 36 (by decide), p1' 37 (by decide), p1' 38 (by decide)] at this; exact this
          · have := s3 k hk
            rw [p1' 39 (by decide)] at this; exact this
          · have := s5
            rw [p1' 20 (by decide)] at this
            exact this
        · exact ⟨by omega, (by rw [f1 0 (by decide)]; exact h4.2.1), (f2 7 (by decide)).trans h4.2.2.1, h4.2.2.2⟩
        · exact ⟨h5.1, (by rw [f1 0 (by decide)]; exact h5.2.1), (f2 20 (by decide)).trans h5.2.2⟩
        · have k5 : υ.2.1 14 = σ.2.1 14 := by rw [s6, p7]
          rw [f1 0 (by decide), f2 27 (by decide), f1 14 (by decide), k5, f1 15 (by decide), f1 16 (by decide), f1 17 (by decide), f1 18 (by decide), f1 19 (by decide), f2 28 (by decide), f2 29 (by decide), f2 30 (by decide), f2 31 (by decide), f2 32 (by decide), f2 33 (by decide), f1 35 (by decide), f1 36 (by decide), f1 37 (by decide), f1 38 (by decide), f1 39 (by decide)]
          exact h6'
    · refine ⟨-103, σ, ?_, σ, ?_, inv_mono t σ hI⟩
      · rw [f_X10_restore, j3, h4.2.1, if_neg (nI_ne0 (by omega) (by omega)), if_neg (fun z => q ((nI_eq (by omega) (by omega)).mp z))]
      · rw [f_X11_restore, j4, h4.2.2.1, if_neg (fun z => q ((nI_eq (by omega) (by omega)).mp z))]
