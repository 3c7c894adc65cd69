/-! city() -/
def kN (c : Nat) : Nat := if c = 115 then 0 else if c = 109 then 1 else if c = 98 then 2 else if c = 112 then 3 else if c = 105 then 4 else 0
theorem kN_tab : ∀ c, c < 127 → (c = 115 ∨ c = 109 ∨ c = 98 ∨ c = 112 ∨ c = 105) → kx c = nI (kN c) ∧ kN c < 5 ∧ ck (kx c) = xk (kN c) := by decide +kernel
abbrev cKd (l : Nat → Nat) (s : Nat) : Nat := kN (l (2 + 5 * s))
abbrev cOn (l : Nat → Nat) (s : Nat) : Nat := l (3 + 5 * s) - 48
abbrev cOt (l : Nat → Nat) (s : Nat) : Nat := l (4 + 5 * s) - 48
abbrev cTn (l : Nat → Nat) (s : Nat) : Nat := l (5 + 5 * s) - 97
/-- the letters of a city of z streets -/
def CL (l : Nat → Nat) (z : Nat) : Prop := 2 ≤ z ∧ z ≤ 8 ∧ 50 ≤ l 0 ∧ l 0 ≤ 53 ∧ ∀ s, s < z → (l (2 + 5 * s) = 115 ∨ l (2 + 5 * s) = 109 ∨ l (2 + 5 * s) = 98 ∨ l (2 + 5 * s) = 112 ∨ l (2 + 5 * s) = 105) ∧ (48 ≤ l (3 + 5 * s) ∧ l (3 + 5 * s) < l 0) ∧ (48 ≤ l (4 + 5 * s) ∧ l (4 + 5 * s) < l 0) ∧ l (4 + 5 * s) ≠ l (3 + 5 * s) ∧ isn (l (5 + 5 * s))
theorem cl_of {l : Nat → Nat} {z : Nat} (hz : 2 ≤ z) (h : ∀ q, q < 5 * z + 1 → lokB l q = true) : CL l z := by
  have h40 := lok_41 (h (5 * z) (by omega))
  have h0 := lok_0 (h 0 (by omega))
  have un : ∀ p, 2 ≤ p → p < 5 * z + 1 → (if (p - 2) % 5 = 0 then decide (l p = 115 ∨ l p = 109 ∨ l p = 98 ∨ l p = 112 ∨ l p = 105) else if (p - 2) % 5 = 1 then decide (48 ≤ l p ∧ l p < l 0) else if (p - 2) % 5 = 2 then decide ((48 ≤ l p ∧ l p < l 0) ∧ l p ≠ l (p - 1)) else if (p - 2) % 5 = 3 then decide (isn (l p)) else decide (l p = 44)) = true := fun p h1 h2 => by
    have := h p h2
    rw [lokB, if_neg (by omega), if_neg (by omega), if_neg (by omega)] at this
    exact this
  refine ⟨hz, by omega, h0.1, h0.2, fun s hs => ?_⟩
  have a0 := un (2 + 5 * s) (by omega) (by omega)
  have a1 := un (3 + 5 * s) (by omega) (by omega)
  have a2 := un (4 + 5 * s) (by omega) (by omega)
  have a3 := un (5 + 5 * s) (by omega) (by omega)
  rw [if_pos (by omega)] at a0
  rw [if_neg (by omega), if_pos (by omega)] at a1
  rw [if_neg (by omega), if_neg (by omega), if_pos (by omega), show 4 + 5 * s - 1 = 3 + 5 * s by omega] at a2
  rw [if_neg (by omega), if_neg (by omega), if_neg (by omega), if_pos (by omega)] at a3
  have b2 := of_decide_eq_true a2
  exact ⟨of_decide_eq_true a0, of_decide_eq_true a1, b2.1, b2.2, of_decide_eq_true a3⟩
theorem isCity_X {σ : ST} {pn : Nat} {l : Nat → Nat} (h : XL σ pn l) : f_X4_isCity σ = some (if 11 ≤ pn ∧ pn % 5 = 1 ∧ ffN l pn 0 = pn then 1 else 0) := by
  have h44 := h.1
  have hle := ffN_le (l := l) pn 0
  rw [f_X4_isCity, o_bs, f_X4_isCity_B18, h.2.1]
  by_cases q : 11 ≤ pn
  · have e : nI pn + 1 - 2 = nI (pn - 1) := by
      rw [nI_1, show nI (pn + 1) - 2 = nI (pn + 1 - 2) from pk_sub (b := 2) (by omega)]; congr 1
    rw [if_neg (show ¬ nI pn < 11 from nI_nlt (b := 11) q (by omega)), e, show j_rem (nI (pn - 1)) 5 = nI ((pn - 1) % 5) from q_rem (d := 5) (by omega) (by decide) (by decide), fault_X h, o_bs]
    by_cases q2 : pn % 5 = 1
    · rw [if_pos (show nI ((pn - 1) % 5) = 0 by rw [show (pn - 1) % 5 = 0 by omega]; rfl), if_neg (by decide), q_if (nI_eq (by omega) (by omega))]
      by_cases q3 : ffN l pn 0 = pn
      · rw [if_pos q3, if_pos ⟨q, q2, q3⟩]
      · rw [if_neg q3, if_neg (fun z => q3 z.2.2)]
    · rw [if_neg (show ¬ nI ((pn - 1) % 5) = 0 from nI_ne0 (by omega) (by omega)), if_pos rfl, if_neg (fun z => q2 z.2.1)]
  · rw [if_pos (show nI pn < 11 from nI_lt (a := pn) (b := 11) (by omega) (by decide)), if_neg (fun z => q z.1)]
theorem n25 (s : Nat) : (2 : Int32) + nI s * 5 = nI (2 + 5 * s) := by
  rw [show (5 : Int32) = nI 5 from rfl, pk_mul, show (2 : Int32) = nI 2 from rfl, nI_add, Nat.mul_comm]
theorem sub48n {c : Nat} (h : 48 ≤ c) : nI c - 48 = nI (c - 48) := pk_sub (b := 48) h
theorem wpR_city {σ : ST} {z : Nat} {l : Nat → Nat} {post : ST → Prop} (hc : CL l z) (hb : ∀ p, p < 5 * z + 1 → l p < 127) (hp : ∀ τ : ST, τ.1 = σ.1 → τ.2.1 = σ.2.1 → (∀ i, i < z → ∃ a, τ.2.2.1 i = some a ∧ a ∈ τ.2.2.2.1 ∧ τ.2.2.2.2.1 a = xk (cKd l i) ∧ τ.2.2.2.2.2.1 a = nI (cOn l i) ∧ τ.2.2.2.2.2.2 a = nI (cOt l i)) → post τ) (hx : XL σ (5 * z + 1) l) (hz : σ.1 4 2 = nI z) :
    ∀ m k n (τ : ST), k + m = z → m < n → τ.1 = σ.1 → τ.2.1 = σ.2.1 → (∀ i, i < k → ∃ a, τ.2.2.1 i = some a ∧ a ∈ τ.2.2.2.1 ∧ τ.2.2.2.2.1 a = xk (cKd l i) ∧ τ.2.2.2.2.2.1 a = nI (cOn l i) ∧ τ.2.2.2.2.2.2 a = nI (cOt l i)) → wpR n (nI k) τ post := by
  obtain ⟨z2, z8, l0, l1, hs⟩ := hc
  intro m
  induction m with
  | zero =>
    intro k n τ h1 h2 h3 h4 h5
    obtain ⟨f, rfl⟩ : ∃ f, n = f + 1 := ⟨n - 1, by omega⟩
    have : k = z := by omega
    subst this
    refine ⟨fun _ => hp τ h3 h4 h5, fun q => absurd ?_ q⟩
    rw [h3, hz]; exact nI_le (Nat.le_refl k) (by omega)
  | succ m ih =>
    intro k n τ h1 h2 h3 h4 h5
    obtain ⟨f, rfl⟩ : ∃ f, n = f + 1 := ⟨n - 1, by omega⟩
    have hk : k < z := by omega
    have hxt : XL τ (5 * z + 1) l := by unfold XL at hx ⊢; rw [h3]; exact hx
    obtain ⟨s0, s1, s2, s3, s4⟩ := hs k hk
    have hb0 := hb (2 + 5 * k) (by omega)
    obtain ⟨t1, t2, t3⟩ := kN_tab _ hb0 s0
    refine ⟨fun q => absurd q ?_, fun _ => ⟨by rw [q_in (by omega)]; omega, kx (l (2 + 5 * k)), nI (cOn l k), nI (cOt l k), ?_, ?_, ?_, fun q hq => ?_⟩⟩
    · rw [h3, hz]; exact nI_ge hk (by omega)
    · rw [f_X4_kindOf, n25, at_L hxt (by omega), o_bs, ix_tab hb0, o_bs]
    · rw [f_X4_oneEndOf, n25, nI_1, show 2 + 5 * k + 1 = 3 + 5 * k by omega, digit_L hxt (by omega), o_bs, sub48n s1.1]
    · rw [f_X4_otherEndOf, n25, show nI (2 + 5 * k) + 2 = nI (4 + 5 * k) by rw [show (2 : Int32) = nI 2 from rfl, nI_add]; congr 1; omega, digit_L hxt (by omega), o_bs, sub48n s2.1]
    · rw [nI_1, q_cl (by omega), t3]
      refine ih (k + 1) f _ (by omega) (by omega) h3 h4 (fun i hi => ?_)
      by_cases e : i = k
      · subst e
        refine ⟨q, va_up_self _ _ _, ?_, va_up_self _ _ _, va_up_self _ _ _, va_up_self _ _ _⟩
        show q ∈ τ.2.2.2.1 ++ [q]
        simp
      · obtain ⟨a, a1, a2, a3, a4, a5⟩ := h5 i (by omega)
        have ne : a ≠ q := fun z => hq (z ▸ a2)
        refine ⟨a, ?_, ?_, ?_, ?_, ?_⟩
        · show va_up τ.2.2.1 k (some q) i = some a
          rw [va_up_ne _ _ e, a1]
        · show a ∈ τ.2.2.2.1 ++ [q]
          simp [a2]
        · show va_up τ.2.2.2.2.1 q _ a = _
          rw [va_up_ne _ _ ne, a3]
        · show va_up τ.2.2.2.2.2.1 q _ a = _
          rw [va_up_ne _ _ ne, a4]
        · show va_up τ.2.2.2.2.2.2 q _ a = _
          rw [va_up_ne _ _ ne, a5]
/-- Now.enter -/
def entS (τ : ST) (T : Nat → Nat) (z : Nat) : ST := uI (uI (uI (uI (uA (uA τ 7 (mx (τ.1 7) T z)) 8 (mx (τ.1 8) (fun _ => 0) 8)) 6 7 0) 6 8 0) 6 9 0) 6 10 0
theorem enter_X {τ : ST} {z : Nat} {l : Nat → Nat} (hc : CL l z) (hx : XL τ (5 * z + 1) l) : f_X3_enter (nI z) τ = some (entS τ (cTn l) z) := by
  obtain ⟨z2, z8, l0, l1, hs⟩ := hc
  rw [f_X3_enter]
  have e0 : τ = uA τ 7 (mx (τ.1 7) (cTn l) 0) := (uA_self τ 7 _ (fun k => by rw [mx, if_neg (by omega)])).symm
  obtain ⟨υ, hυ⟩ : ∃ υ, υ = uA τ 7 (mx (τ.1 7) (cTn l) z) := ⟨_, rfl⟩
  have k1 := loopJ (fun fu j => f_X3_enter_L2 fu (nI z) (nI j) (uA τ 7 (mx (τ.1 7) (cTn l) j))) z (f_X3_enter_B23 υ) (fun f j hj => ?_) (fun f => ?_) z 0 fuel (by omega) (by rw [fuel_eq]; omega)
  · rw [← e0] at k1
    refine Eq.trans k1 ?_
    have e1 : υ = uA υ 8 (mx (υ.1 8) (fun _ => 0) 0) := (uA_self υ 8 _ (fun k => by rw [mx, if_neg (by omega)])).symm
    have k2 := loopJ (fun fu j => f_X3_enter_L25 fu (nI j) (uA υ 8 (mx (υ.1 8) (fun _ => 0) j))) 8 (f_X3_enter_B47 (uA υ 8 (mx (υ.1 8) (fun _ => 0) 8))) (fun f j hj => ?_) (fun f => ?_) 8 0 fuel (by omega) (by rw [fuel_eq]; omega)
    · rw [← e1] at k2
      rw [f_X3_enter_B23]
      refine Eq.trans k2 ?_
      rw [f_X3_enter_B47, o_bs, o_bs, o_bs, o_bs, hυ]
      rfl
    · show f_X3_enter_L25 (f + 1) (nI j) (uA υ 8 (mx (υ.1 8) (fun _ => 0) j)) = f_X3_enter_L25 f (nI (j + 1)) (uA υ 8 (mx (υ.1 8) (fun _ => 0) (j + 1)))
      rw [f_X3_enter_L25, if_neg (show ¬ (8 : Int32) ≤ nI j from nI_ge (a := j) (b := 8) hj (by decide)), if_pos (by rw [q_in (by omega)]; omega), q_cl (by omega), uA_uI, o_bs, o_bs, nI_1]
      exact congrArg (fun w => f_X3_enter_L25 f (nI (j + 1)) (uA υ 8 w)) (mx_up (υ.1 8) (fun _ => 0) j)
    · show f_X3_enter_L25 (f + 1) (nI 8) (uA υ 8 (mx (υ.1 8) (fun _ => 0) 8)) = _
      rw [f_X3_enter_L25, if_pos (by decide)]
  · show f_X3_enter_L2 (f + 1) (nI z) (nI j) (uA τ 7 (mx (τ.1 7) (cTn l) j)) = f_X3_enter_L2 f (nI z) (nI (j + 1)) (uA τ 7 (mx (τ.1 7) (cTn l) (j + 1)))
    have hx' : XL (uA τ 7 (mx (τ.1 7) (cTn l) j)) (5 * z + 1) l := hx
    obtain ⟨s0, s1, s2, s3, s4⟩ := hs j hj
    have e5 : (2 : Int32) + nI j * 5 + 3 = nI (5 + 5 * j) := by
      rw [n25, show (3 : Int32) = nI 3 from rfl, nI_add]; congr 1; omega
    rw [f_X3_enter_L2, if_neg (nI_ge hj (by omega)), f_X4_tonicOf, e5, noteAt_L hx' (by omega), o_bs, o_bs, if_pos s4, f_X3_setTonic, if_neg (nI_pos (by omega)), if_neg (show ¬ (8 : Int32) ≤ nI j from nI_ge (a := j) (b := 8) (by omega) (by decide)), if_pos (by rw [q_in (by omega)]; omega), q_cl (by omega), uA_uI, o_bs, o_bs, o_bs, nI_1]
    exact congrArg (fun w => f_X3_enter_L2 f (nI z) (nI (j + 1)) (uA τ 7 w)) (mx_up (τ.1 7) (cTn l) j)
  · show f_X3_enter_L2 (f + 1) (nI z) (nI z) (uA τ 7 (mx (τ.1 7) (cTn l) z)) = _
    rw [f_X3_enter_L2, if_pos (nI_le (Nat.le_refl z) (by omega)), hυ]
/-- the reference's rows -/
def CQ (ba : ST) (l : Nat → Nat) (j : Nat) (τ : ST) : Prop := (∀ o, o ≠ 22 → o ≠ 23 → o ≠ 24 → τ.1 o = ba.1 o) ∧ τ.2 = ba.2 ∧ (∀ i, i < j → τ.1 22 (3 * i) = nI (cKd l i) ∧ τ.1 22 (3 * i + 1) = nI (cOn l i) ∧ τ.1 22 (3 * i + 2) = nI (cOt l i) ∧ τ.1 24 i = 0) ∧ ∀ i, τ.1 23 i = if i < j then nI (cTn l i) else ba.1 23 i
theorem city_ML {ba : ST} {z : Nat} {l : Nat → Nat} (hc : CL l z) (hx : ML ba (5 * z + 1) l) (hz : ba.1 20 3 = nI z) : ∀ m j fu (τ : ST), j + m = z → m < fu → CQ ba l j τ → ∃ τ', CQ ba l z τ' ∧ f_X11_city_L60 fu (nI j) τ = f_X11_city_B163 τ' := by
  obtain ⟨z2, z8, l0, l1, hs⟩ := hc
  intro m
  induction m with
  | zero =>
    intro j fu τ h1 h2 h3
    obtain ⟨f, rfl⟩ : ∃ f, fu = f + 1 := ⟨fu - 1, by omega⟩
    have : j = z := by omega
    subst this
    exact ⟨τ, h3, by rw [f_X11_city_L60, h3.1 20 (by decide) (by decide) (by decide), hz, if_pos (nI_le (Nat.le_refl j) (by omega))]⟩
  | succ m ih =>
    intro j fu τ h1 h2 h3
    obtain ⟨f, rfl⟩ : ∃ f, fu = f + 1 := ⟨fu - 1, by omega⟩
    have hj : j < z := by omega
    obtain ⟨c1, c2, c3, c4⟩ := h3
    have m21 : ∀ p, p < 5 * z + 1 → l p < 127 ∧ τ.1 21 p = nI (l p) := fun p hp => by rw [c1 21 (by decide) (by decide) (by decide)]; exact hx.2.2 p hp
    obtain ⟨s0, s1, s2, s3, s4⟩ := hs j hj
    obtain ⟨t1, t2, t3⟩ := kN_tab _ (m21 (2 + 5 * j) (by omega)).1 s0
    have e0 : (2 : Int32) + 5 * nI j = nI (2 + 5 * j) := by
      rw [show (5 : Int32) = nI 5 from rfl, pk_mul, show (2 : Int32) = nI 2 from rfl, nI_add]
    have e1 : nI (2 + 5 * j) + 1 = nI (3 + 5 * j) := by rw [nI_1]; congr 1; omega
    have e2 : nI (2 + 5 * j) + 2 = nI (4 + 5 * j) := by rw [show (2 : Int32) = nI 2 from rfl, nI_add]; congr 1; omega
    have e3 : nI (2 + 5 * j) + 3 = nI (5 + 5 * j) := by rw [show (3 : Int32) = nI 3 from rfl, nI_add]; congr 1; omega
    have d1 : nI (3 * j) + 1 = nI (3 * j + 1) := nI_1 _
    have d2 : nI (3 * j) + 2 = nI (3 * j + 2) := nI_add _ 2
    have i24 : ∀ k, k < 24 → inB (nI k) 24 := fun k hk => by rw [q_in (by omega)]; exact hk
    have i44 : ∀ k, k < 44 → inB (nI k) 44 := fun k hk => by rw [q_in (by omega)]; exact hk
    have i8 : inB (nI j) 8 := by rw [q_in (by omega)]; omega
    obtain ⟨τ5, h5⟩ : ∃ τ5, τ5 = uI (uI (uI (uI (uI τ 22 (3 * j) (nI (cKd l j))) 22 (3 * j + 1) (nI (cOn l j))) 22 (3 * j + 2) (nI (cOt l j))) 23 j (nI (cTn l j))) 24 j 0 := ⟨_, rfl⟩
    have step : f_X11_city_L60 (f + 1) (nI j) τ = f_X11_city_L60 f (nI (j + 1)) τ5 := by
      rw [f_X11_city_L60, c1 20 (by decide) (by decide) (by decide), hz, if_neg (nI_ge hj (by omega)), e0, o_bs, if_pos (i44 _ (by omega)), q_cl (by omega), (m21 _ (by omega)).2, kb_tab _ (m21 (2 + 5 * j) (by omega)).1, t1, o_bs, mul3, if_pos (i24 _ (by omega)), q_cl (by omega), o_bs, e1, if_pos (i44 _ (by omega)), d1, if_pos (i24 _ (by omega)), q_cl (by omega), q_cl (by omega)]
      rw [show (uI τ 22 (3 * j) (nI (cKd l j))).1 21 = τ.1 21 from rfl, (m21 _ (by omega)).2, sub48n s1.1, o_bs, e2, if_pos (i44 _ (by omega)), d2, if_pos (i24 _ (by omega)), q_cl (by omega), q_cl (by omega)]
      rw [show (uI (uI τ 22 (3 * j) (nI (cKd l j))) 22 (3 * j + 1) (nI (l (3 + 5 * j) - 48))).1 21 = τ.1 21 from rfl, (m21 _ (by omega)).2, sub48n s2.1, o_bs, e3, if_pos (i44 _ (by omega)), if_pos i8, o_bs, if_pos i8, o_bs, o_bs, nI_1, q_cl (by omega), q_cl (by omega)]
      rw [show (uI (uI (uI τ 22 (3 * j) (nI (cKd l j))) 22 (3 * j + 1) (nI (l (3 + 5 * j) - 48))) 22 (3 * j + 2) (nI (l (4 + 5 * j) - 48))).1 21 = τ.1 21 from rfl, (m21 _ (by omega)).2, sub97 s4, h5]
    have q22 : ∀ k, τ5.1 22 k = if k = 3 * j + 2 then nI (cOt l j) else if k = 3 * j + 1 then nI (cOn l j) else if k = 3 * j then nI (cKd l j) else τ.1 22 k := fun k => by rw [h5]; rfl
    have q23 : ∀ k, τ5.1 23 k = if k = j then nI (cTn l j) else τ.1 23 k := fun k => by rw [h5]; rfl
    have q24 : ∀ k, τ5.1 24 k = if k = j then 0 else τ.1 24 k := fun k => by rw [h5]; rfl
    have hC : CQ ba l (j + 1) τ5 := by
      refine ⟨fun o o1 o2 o3 => ?_, ?_, fun i hi => ?_, fun i => ?_⟩
      · rw [h5, ← c1 o o1 o2 o3]
        show va_up (va_up (va_up (va_up (va_up τ.1 22 _) 22 _) 22 _) 23 _) 24 _ o = _
        rw [va_up_ne _ _ o3, va_up_ne _ _ o2, va_up_ne _ _ o1, va_up_ne _ _ o1, va_up_ne _ _ o1]
      · rw [h5, ← c2]; rfl
      · rw [q22, q22, q22, q24]
        by_cases e : i = j
        · subst e
          rw [if_neg (by omega), if_neg (by omega), if_pos rfl, if_neg (by omega), if_pos rfl, if_pos rfl, if_pos rfl]
          exact ⟨rfl, rfl, rfl, rfl⟩
        · rw [if_neg (by omega), if_neg (by omega), if_neg (by omega), if_neg (by omega), if_neg (by omega), if_neg (by omega), if_neg (by omega), if_neg (by omega), if_neg (by omega), if_neg e]
          exact c3 i (by omega)
      · rw [q23, c4]
        by_cases e : i = j
        · subst e; rw [if_pos rfl, if_pos (by omega)]
        · rw [if_neg e]
          by_cases e2 : i < j
          · rw [if_pos e2, if_pos (by omega)]
          · rw [if_neg e2, if_neg (by omega)]
    obtain ⟨τ', u1, u2⟩ := ih (j + 1) f τ5 (by omega) (by omega) hC
    exact ⟨τ', u1, by rw [step, u2]⟩
