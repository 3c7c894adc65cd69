theorem div5 {pn : Nat} (h : 1 ≤ pn) (h2 : pn ≤ 44) : (nI pn - 1) / 5 = nI ((pn - 1) / 5) := by
  rw [show nI pn - 1 = nI (pn - 1) from pk_sub (b := 1) h]
  exact pk_div (d := 5) (by omega) (by decide) (by decide)
theorem city_M {σ : ST} {pn z : Nat} {l : Nat → Nat} (hx : ML σ pn l) (hp : pn = 5 * z + 1) (hf : ffN l pn 0 = pn) (hc : CL l z) : ∃ τ', CQ (uI (uI σ 20 2 (nI (l 0 - 48))) 20 3 (nI z)) l z τ' ∧ f_X11_city σ = f_X11_city_B163 τ' := by
  have z2 := hc.1
  have z8 := hc.2.1
  have hc' := hc
  obtain ⟨-, -, l0, l1, hs⟩ := hc
  obtain ⟨τ', u1, u2⟩ := city_ML (ba := uI (uI σ 20 2 (nI (l 0 - 48))) 20 3 (nI z)) hc' (by rw [← hp]; exact hx) rfl z 0 fuel (uI (uI σ 20 2 (nI (l 0 - 48))) 20 3 (nI z)) (by omega) (by rw [fuel_eq]; omega) ⟨fun _ _ _ _ => rfl, rfl, fun i hi => absurd hi (Nat.not_lt_zero i), fun i => by rw [if_neg (Nat.not_lt_zero i)]⟩
  refine ⟨τ', u1, ?_⟩
  rw [f_X11_city, hx.2.1, if_neg (show ¬ nI pn < 11 from nI_nlt (b := 11) (by omega) (by omega)), show j_rem (nI pn) 5 = nI (pn % 5) from q_rem (d := 5) (by omega) (by decide) (by decide), if_pos (by rw [show pn % 5 = 1 by omega]; rfl), fault_M hx, o_bs, hf, if_pos (nI_le (Nat.le_refl pn) (by omega)), o_bs, (hx.2.2 0 (by omega)).2, sub48n (by omega), show (uI σ 20 2 (nI (l 0 - 48))).1 20 1 = σ.1 20 1 from rfl, hx.2.1, div5 (by omega) (by omega), o_bs, show (pn - 1) / 5 = z by omega]
  exact u2
theorem cityNo_M {σ : ST} {pn : Nat} {l : Nat → Nat} (hx : ML σ pn l) (hn : ¬ (11 ≤ pn ∧ pn % 5 = 1 ∧ ffN l pn 0 = pn)) : f_X11_city σ = some (-103, σ) := by
  have h44 := hx.1
  have hle := ffN_le (l := l) pn 0
  rw [f_X11_city, hx.2.1]
  by_cases q : 11 ≤ pn
  · rw [if_neg (show ¬ nI pn < 11 from nI_nlt (b := 11) q (by omega)), show j_rem (nI pn) 5 = nI (pn % 5) from q_rem (d := 5) (by omega) (by decide) (by decide)]
    by_cases q2 : pn % 5 = 1
    · rw [if_pos (by rw [q2]; rfl), fault_M hx, o_bs, if_neg (nI_ge (by omega) (by omega))]
    · rw [if_neg (show ¬ nI (pn % 5) = 1 from fun z => q2 ((nI_eq (b := 1) (by omega) (by decide)).mp z))]
  · rw [if_pos (show nI pn < 11 from nI_lt (a := pn) (b := 11) (by omega) (by decide))]
theorem sp_city {t : Nat} {σ : ST} (h : Inv t σ) (a b c : Int32) : SP3 (Inv (t + 1)) σ a b c := by
  have hI := h
  obtain ⟨pn, z0, cc, kd, on, ot, rd, wy, h1, h2, h3, h4, h5, h6⟩ := h
  have pl := pl_of h1
  obtain ⟨l, hl⟩ : ∃ l, l = fun p => (σ.1 2 p).toNatClampNeg := ⟨_, rfl⟩
  rw [← hl] at pl
  have h44 := h1.1
  unfold SP3 wpCity
  by_cases q : 11 ≤ pn ∧ pn % 5 = 1 ∧ ffN l pn 0 = pn
  · refine ⟨1, by rw [isCity_X pl.x, if_pos q], fun z => absurd z (by decide), fun _ => ?_⟩
    obtain ⟨q1, q2, q3⟩ := q
    obtain ⟨z, hz⟩ : ∃ z, pn = 5 * z + 1 := ⟨(pn - 1) / 5, by omega⟩
    have all := ffN_all (l := l) pn 0 (by omega)
    have hc : CL l z := cl_of (by omega) (fun q hq => all q (by omega) (by omega))
    have hc' := hc
    obtain ⟨z2, z8, l0, l1, hs⟩ := hc
    obtain ⟨n1, n2, n3, n4, n5, -⟩ := h3
    refine ⟨nI (l 0 - 48), nI z, ?_, ?_, ?_⟩
    · rw [show (0 : Int32) = nI 0 from rfl, digit_L pl.x (by omega), sub48n (by omega)]
    · have e : nI pn + 1 - 2 = nI (pn - 1) := by
        rw [nI_1, show nI (pn + 1) - 2 = nI (pn + 1 - 2) from pk_sub (b := 2) (by omega)]; congr 1
      rw [f_X4_streets]
      show some ((σ.1 1 1 + 1 - 2) / 5) = _
      rw [pl.2.1, e, show nI (pn - 1) / 5 = nI ((pn - 1) / 5) from pk_div (d := 5) (by omega) (by decide) (by decide), show (pn - 1) / 5 = z by omega]
    · rw [if_neg (show ¬ (8 : Int32) < nI z from nI_nlt (a := 8) (b := z) z8 (by decide))]
      obtain ⟨σa, hσa⟩ : ∃ σa, σa = uI (uI σ 4 1 (nI (l 0 - 48))) 4 2 (nI z) := ⟨_, rfl⟩
      rw [← hσa]
      have xa : XL σa (5 * z + 1) l := by rw [hσa, ← hz]; exact pl.x
      refine wpR_city (σ := σa) hc' (fun p hp => (xa.2.2 p hp).1) (fun τ t1 t2 t3 => ?_) xa (by rw [hσa]; rfl) z 0 9 σa (by omega) (by omega) rfl rfl (fun i hi => absurd hi (Nat.not_lt_zero i))
      have xt : XL τ (5 * z + 1) l := by unfold XL at xa ⊢; rw [t1]; exact xa
      have t42 : τ.1 4 2 = nI z := by rw [t1, hσa]; rfl
      refine ⟨entS τ (cTn l) z, by rw [t42]; exact enter_X hc' xt, ?_⟩
      obtain ⟨υ, hυ⟩ : ∃ υ, υ = uI (uI (entS τ (cTn l) z) 1 1 0) 0 5 ((uI (entS τ (cTn l) z) 1 1 0).1 0 5 + 1) := ⟨_, rfl⟩
      rw [← hυ]
      have eo : ∀ o, o ≠ 7 → o ≠ 8 → o ≠ 6 → o ≠ 1 → o ≠ 0 → o ≠ 4 → υ.1 o = σ.1 o := fun o o7 o8 o6 o1 o0 o4 => by
        rw [hυ]
        show va_up (va_up (va_up (va_up (va_up (va_up (va_up (va_up τ.1 7 _) 8 _) 6 _) 6 _) 6 _) 6 _) 1 _) 0 _ o = _
        rw [va_up_ne _ _ o0, va_up_ne _ _ o1, va_up_ne _ _ o6, va_up_ne _ _ o6, va_up_ne _ _ o6, va_up_ne _ _ o6, va_up_ne _ _ o8, va_up_ne _ _ o7, t1, hσa]
        show va_up (va_up σ.1 4 _) 4 _ o = _
        rw [va_up_ne _ _ o4, va_up_ne _ _ o4]
      have mu : ML υ pn l := by
        have := pl.m
        unfold ML at this ⊢
        rw [eo 20 (by decide) (by decide) (by decide) (by decide) (by decide) (by decide), eo 21 (by decide) (by decide) (by decide) (by decide) (by decide) (by decide)]
        exact this
      obtain ⟨ω, w1, w2⟩ := city_M mu hz q3 hc'
      obtain ⟨ba, hba⟩ : ∃ ba, ba = uI (uI υ 20 2 (nI (l 0 - 48))) 20 3 (nI z) := ⟨_, rfl⟩
      rw [← hba] at w1
      obtain ⟨c1, c2, c3, c4⟩ := w1
      have o20 := c1 20 (by decide) (by decide) (by decide)
      have u4 : υ.1 4 = σa.1 4 := by rw [hυ]; show τ.1 4 = _; rw [t1]
      have u42 : υ.1 4 2 = nI z := by rw [u4, hσa]; rfl
      have u41 : υ.1 4 1 = nI (l 0 - 48) := by rw [u4, hσa]; rfl
      have b20 : ∀ k, k ≠ 2 → k ≠ 3 → ba.1 20 k = σ.1 20 k := fun k k2 k3 => by
        rw [hba]
        show va_up (va_up (υ.1 20) 2 _) 3 _ k = _
        rw [va_up_ne _ _ k3, va_up_ne _ _ k2, eo 20 (by decide) (by decide) (by decide) (by decide) (by decide) (by decide)]
      refine ⟨uI (uI (uI (uI (uI (uI ω 20 4 0) 20 5 0) 20 6 0) 20 23 0) 20 7 (σ.1 20 7 + 1)) 20 1 0, ?_, ?_⟩
      · rw [w2, f_X11_city_B163, o_bs, o_bs, o_bs, o_bs, o_bs, o_bs, show (uI (uI (uI (uI ω 20 4 0) 20 5 0) 20 6 0) 20 23 0).1 20 7 = ω.1 20 7 from rfl, o20, b20 7 (by decide) (by decide), u42]
        show some (ω.1 20 3, _) = _
        rw [o20, hba]
        rfl
      · have ωo : ∀ o, o ≠ 22 → o ≠ 23 → o ≠ 24 → o ≠ 20 → ω.1 o = υ.1 o := fun o o1 o2 o3 o4 => by
          rw [c1 o o1 o2 o3, hba]
          show va_up (va_up υ.1 20 _) 20 _ o = _
          rw [va_up_ne _ _ o4, va_up_ne _ _ o4]
        have ω20 : ∀ k, k ≠ 2 → k ≠ 3 → ω.1 20 k = σ.1 20 k := fun k k2 k3 => by rw [o20, b20 k k2 k3]
        have ωs : ∀ o, o ∈ [2, 9, 10, 11, 14, 15, 16, 17, 18, 19, 21, 25, 26, 33, 35, 36, 37, 38, 39] → ω.1 o = σ.1 o := fun o ho => by
          rw [ωo o (by intro q; subst q; revert ho; decide) (by intro q; subst q; revert ho; decide) (by intro q; subst q; revert ho; decide) (by intro q; subst q; revert ho; decide)]
          apply eo o <;> (intro q; subst q; revert ho; decide)
        have l2 : ω.2.1 = σ.2.1 := by
          rw [c2, hba]; show υ.2.1 = _
          rw [hυ]; show τ.2.1 = _
          rw [t2, hσa]; rfl
        have p2 : ω.2.2 = τ.2.2 := by
          rw [c2, hba]; show υ.2.2 = _
          rw [hυ]; rfl
        have w6 : ω.1 6 = υ.1 6 := ωo 6 (by decide) (by decide) (by decide) (by decide)
        have w4 : ω.1 4 = υ.1 4 := ωo 4 (by decide) (by decide) (by decide) (by decide)
        have w0 : ω.1 0 = υ.1 0 := ωo 0 (by decide) (by decide) (by decide) (by decide)
        have w11 : ω.1 1 1 = 0 := by rw [ωo 1 (by decide) (by decide) (by decide) (by decide), hυ]; rfl
        have w05 : ω.1 0 5 = σ.1 0 5 + 1 := by
          rw [w0, hυ]; show τ.1 0 5 + 1 = _
          rw [t1, hσa]; rfl
        have w0k : ∀ k, k ≠ 5 → ω.1 0 k = σ.1 0 k := fun k hk => by
          rw [w0, hυ]; show va_up (τ.1 0) 5 _ k = _
          rw [va_up_ne _ _ hk, t1, hσa]; rfl
        have w7 : ω.1 7 = mx (σ.1 7) (cTn l) z := by
          rw [ωo 7 (by decide) (by decide) (by decide) (by decide), hυ]
          show mx (τ.1 7) (cTn l) z = _
          rw [t1, hσa]; rfl
        have w8 : ∀ i, i < 8 → ω.1 8 i = 0 := fun i hi => by
          rw [ωo 8 (by decide) (by decide) (by decide) (by decide), hυ]
          show mx (τ.1 8) (fun _ => 0) 8 i = _
          rw [mx, if_pos hi]; rfl
        refine ⟨0, z, l 0 - 48, cKd l, cOn l, cOt l, rd + 1, wy, ?_, ?_, ?_, ?_, ?_, ?_⟩
        · refine ⟨by decide, w11, rfl, fun k hk => ?_, fun k hk => absurd hk (Nat.not_lt_zero k)⟩
          show ω.1 2 k = ω.1 21 k
          rw [ωs 2 (by decide), ωs 21 (by decide)]; exact h1.2.2.2.1 k hk
        · refine ⟨Or.inr z2, z8, fun e => by omega, fun _ => by omega, by omega, (by show ω.1 4 1 = _; rw [w4, u41]), ?_, (by show ω.1 4 2 = _; rw [w4, u42]), ?_, fun i hi => ?_⟩
          · show ω.1 20 2 = _
            rw [o20, hba]; rfl
          · show ω.1 20 3 = _
            rw [o20, hba]; rfl
          · obtain ⟨s0, s1, s2, s3, s4⟩ := hs i hi
            obtain ⟨k1, k2, k3⟩ := kN_tab _ ((pl.x).2.2 (2 + 5 * i) (by omega)).1 s0
            obtain ⟨a1, a2, a3, a4⟩ := c3 i hi
            refine ⟨k2, (by show l (3 + 5 * i) - 48 < l 0 - 48; omega), (by show l (4 + 5 * i) - 48 < l 0 - 48; omega), (by show l (3 + 5 * i) - 48 ≠ l (4 + 5 * i) - 48; omega), a1, a2, a3, ?_⟩
            obtain ⟨ad, b1, b2, b3, b4, b5⟩ := t3 i hi
            show ∃ a, ω.2.2.1 i = some a ∧ a ∈ ω.2.2.2.1 ∧ ω.2.2.2.2.1 a = xk (cKd l i) ∧ ω.2.2.2.2.2.1 a = nI (cOn l i) ∧ ω.2.2.2.2.2.2 a = nI (cOt l i)
            rw [p2]
            exact ⟨ad, b1, b2, b3, b4, b5⟩
        · have tun : ∀ (w o k : Nat) (xx : Int32) (yy : Int64), True := fun _ _ _ _ _ => trivial
          refine ⟨fun i hi => ?_, fun i hi => ?_, fun i hi => ?_, ?_, ?_, ⟨0, Or.inr rfl, ?_, rfl⟩, ⟨0, by decide, ?_, rfl⟩, ⟨0, by decide, ?_, rfl⟩, ⟨0, by decide, ?_, rfl, fun i hi => absurd hi (Nat.not_lt_zero i)⟩⟩
          · show ω.1 7 i = ω.1 23 i
            rw [w7, c4, mx]
            by_cases e : i < z
            · rw [if_pos e, if_pos e]
            · rw [if_neg e, if_neg e, n1 i hi, hba]
              show _ = υ.1 23 i
              rw [eo 23 (by decide) (by decide) (by decide) (by decide) (by decide) (by decide)]
          · obtain ⟨s0, s1, s2, s3, s4⟩ := hs i hi
            refine ⟨cTn l i, by show l (5 + 5 * i) - 97 < 12; omega, ?_⟩
            show ω.1 23 i = _
            rw [c4, if_pos hi]
          · show ω.1 8 i = ω.1 24 i
            rw [w8 i (by omega), (c3 i hi).2.2.2]
          · obtain ⟨g, n, a1, a2, a3, a4⟩ := n4
            refine ⟨g, n, a1, fun k hk => ?_, ?_, ?_⟩
            · show ω.1 25 k = _
              rw [ωs 25 (by decide)]; exact a2 k hk
            · show ω.1 20 13 = _
              rw [ω20 13 (by decide) (by decide)]; exact a3
            · show ω.2.1 6 5 = _
              rw [l2]; exact a4
          · obtain ⟨g, n, a1, a2, a3, a4⟩ := n5
            refine ⟨g, n, a1, fun k hk => ?_, ?_, ?_⟩
            · show ω.1 26 k = _
              rw [ωs 26 (by decide)]; exact a2 k hk
            · show ω.1 20 14 = _
              rw [ω20 14 (by decide) (by decide)]; exact a3
            · show ω.2.1 6 6 = _
              rw [l2]; exact a4
          · show ω.1 6 7 = _
            rw [w6, hυ]; rfl
          · show ω.1 6 8 = _
            rw [w6, hυ]; rfl
          · show ω.1 6 9 = _
            rw [w6, hυ]; rfl
          · show ω.1 6 10 = _
            rw [w6, hυ]; rfl
        · refine ⟨by omega, ?_, ?_, fun _ => by omega⟩
          · show ω.1 0 5 = _
            rw [w05, h4.2.1, nI_1]
          · show σ.1 20 7 + 1 = _
            rw [h4.2.2.1, nI_1]
        · refine ⟨h5.1, ?_, ?_⟩
          · show ω.1 0 7 = _
            rw [w0k 7 (by decide)]; exact h5.2.1
          · show ω.1 20 20 = _
            rw [ω20 20 (by decide) (by decide)]; exact h5.2.2
        · rcases h6 with ⟨i1, i2⟩ | ⟨j, j1, j2, j3, j4, j5⟩
          · refine Or.inl ⟨?_, ?_⟩
            · show ω.1 0 6 = _
              rw [w0k 6 (by decide)]; exact i1
            · show ω.1 20 27 = _
              rw [ω20 27 (by decide) (by decide)]; exact i2
          · refine Or.inr ⟨j, j1, by omega, ?_, ?_, fun e => by omega⟩
            · show ω.1 0 6 = _
              rw [w0k 6 (by decide)]; exact j3
            · show ω.1 20 27 = _
              rw [ω20 27 (by decide) (by decide)]; exact j4
  · exact ⟨0, by rw [isCity_X pl.x, if_neg q], fun _ => ⟨σ, cityNo_M pl.m q, inv_mono t σ hI⟩, fun z => absurd rfl z⟩
