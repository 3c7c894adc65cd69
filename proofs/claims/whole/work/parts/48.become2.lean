/-! become() -/
noncomputable def beV (kd on ot tn : Nat → Nat) (b n z d : Nat) (g : Nat → Nat) (cr : Nat) : Nat := (bc kd on ot tn b n z d g cr (fun _ _ => 0, 0)).2
theorem nz_0 {T : Nat → Int64} : ∀ N, (∀ p, p < N → T p = 0) → nz T N = 0
  | 0, _ => rfl
  | N + 1, h => by rw [nz, if_pos (h N (by omega)), nz_0 N (fun p hp => h p (by omega))]
def zsl (σ : ST) (j : Nat) : ST := (σ.1, va_up σ.2.1 13 (fun k => if k < j then 0 else σ.2.1 13 k), σ.2.2)
theorem zsl_up (σ : ST) (j : Nat) : uL (zsl σ j) 13 j 0 = zsl σ (j + 1) := by
  unfold uL zsl
  show (σ.1, va_up (va_up σ.2.1 13 _) 13 (va_up (va_up σ.2.1 13 (fun k => if k < j then 0 else σ.2.1 13 k) 13) j 0), σ.2.2) = _
  rw [bx_uu, va_up_self]
  refine congrArg (fun F => (σ.1, va_up σ.2.1 13 F, σ.2.2)) (funext fun k => ?_)
  by_cases q : k = j
  · subst q; rw [va_up_self, if_pos (by omega)]
  · rw [va_up_ne _ _ q]
    by_cases q2 : k < j
    · rw [if_pos q2, if_pos (by omega)]
    · rw [if_neg q2, if_neg (by omega)]
theorem zsl_0 (σ : ST) : zsl σ 0 = σ := by
  unfold zsl
  have : va_up σ.2.1 13 (fun k => if k < 0 then 0 else σ.2.1 13 k) = σ.2.1 := by
    funext k
    by_cases q : k = 13
    · subst q; rw [va_up_self]; funext u; rw [if_neg (by omega)]
    · rw [va_up_ne _ _ q]
  rw [this]
theorem become_X {σ : ST} {z c b n0 n1 cr d : Nat} {kd on ot tn g0 g1 : Nat → Nat} (v : VW σ z c kd on ot tn b) (tu : TU σ g0 n0 g1 n1) (hc : CR σ z c cr) (hn : n0 ≠ 0) (hd : d ≤ 3) : ∃ σ', SE σ σ' ∧ f_X9_tunesBehind (nI d) σ = some (nI (beV kd on ot tn b n0 z d g0 cr), σ') := by
  rw [f_X9_tunesBehind, o_bs]
  obtain ⟨σ1, hσ1⟩ : ∃ σ1, σ1 = uI σ 3 4 0 := ⟨_, rfl⟩
  rw [← hσ1]
  have s1 : SE σ σ1 := by rw [hσ1]; exact SE.x3 σ 4 0
  have key := loopJ (fun fu j => f_X9_tunesBehind_L7 fu (nI d) (nI j) (zsl σ1 j)) 1024 (f_X9_tunesBehind_B29 (nI d) (zsl σ1 1024)) (fun f j hj => by
    show f_X9_tunesBehind_L7 (f + 1) (nI d) (nI j) (zsl σ1 j) = _
    rw [f_X9_tunesBehind_L7, if_neg (show ¬ (1024 : Int32) ≤ nI j from nI_ge (a := j) (b := 1024) hj (by decide)), if_pos (by rw [q_in (by omega)]; omega), q_cl (by omega), zsl_up, o_bs, o_bs, nI_1]) (fun f => by
    show f_X9_tunesBehind_L7 (f + 1) (nI d) (nI 1024) (zsl σ1 1024) = _
    rw [f_X9_tunesBehind_L7, if_pos (by decide)]) 1024 0 fuel (by decide) (by rw [fuel_eq]; omega)
  rw [zsl_0] at key
  obtain ⟨σ2, hσ2⟩ : ∃ σ2, σ2 = zsl σ1 1024 := ⟨_, rfl⟩
  rw [← hσ2] at key
  have e13 : σ2.2.1 13 = fun k => if k < 1024 then 0 else σ1.2.1 13 k := by
    rw [hσ2]
    show va_up σ1.2.1 13 (fun k => if k < 1024 then 0 else σ1.2.1 13 k) 13 = _
    exact va_up_self _ _ _
  have s2 : SE σ1 σ2 := by
    rw [hσ2]
    exact ⟨fun _ _ _ _ _ _ _ _ _ _ _ => rfl, fun _ _ _ => rfl, fun o _ h _ => va_up_ne _ _ h, rfl⟩
  have sA := s1.tr s2
  obtain ⟨t0, -, -, -, -, -, l0, -⟩ := sA.tu tu
  obtain ⟨c1, -, c3, -⟩ := sA.cr hc
  have hX : XI n0 (fun _ _ => 0, 0) σ2 := by
    refine ⟨⟨fun p hp => Or.inl (by rw [e13]; exact if_pos hp), fun k hk => absurd hk (Nat.not_lt_zero k), ?_⟩, by rw [hσ2]; show σ1.1 3 4 = _; rw [hσ1, uI_s, va_up_self]; rfl⟩
    rw [nz_0 1024 (fun p hp => by rw [e13]; exact if_pos hp)]
    exact Nat.le_refl 0
  have h8 : 8 ^ d ≤ 8 ^ 3 := Nat.pow_le_pow_right (by decide) hd
  obtain ⟨τ, k1, k2, k3⟩ := bec_X (n1 := n1) (g0 := g0) (g1 := g1) (sA.vw v) hn d 8 g0 cr (fun _ _ => 0, 0) σ2 (by omega) hd (SE.rf σ2) t0 c1 (fun k hk => absurd hk (Nat.not_lt_zero k)) (by show 0 + 8 ^ d ≤ 512; omega) hX
  refine ⟨τ, sA.tr k1, ?_⟩
  have e3 : (if 3 < nI d then (3 : Int32) else nI d) = nI d := if_neg (show ¬ (3 : Int32) < nI d from nI_nlt (a := 3) (b := d) hd (by decide))
  rw [show (0 : Int32) = nI 0 from rfl]
  refine Eq.trans key ?_
  rw [f_X9_tunesBehind_B29, l0, c3, e3, k3, o_bs, k2.2]
  rfl
theorem cst_le : ∀ d, d < 6 → cst d ≤ 74897 := by decide
theorem become_M {σ : ST} {z c b n0 n1 cr d : Nat} {kd on ot tn g0 g1 : Nat → Nat} (v : VW σ z c kd on ot tn b) (tu : TU σ g0 n0 g1 n1) (hc : CR σ z c cr) (hn : n0 ≠ 0) (hd : d ≤ 3) : ∃ σ', SM σ σ' ∧ f_X11_becomeOf (nI d) σ = some (nI (beV kd on ot tn b n0 z d g0 cr), σ') := by
  obtain ⟨t0, t1, r0, r1, e0, e1, l0, l1⟩ := tu
  have tu : TU σ g0 n0 g1 n1 := ⟨t0, t1, r0, r1, e0, e1, l0, l1⟩
  obtain ⟨σ1, a1, a2, a3, a4, a5⟩ := begin_M t0.1 r0 hc.2.2.2
  obtain ⟨σ2, hσ2⟩ : ∃ σ2, σ2 = uI (uI σ1 20 22 0) 31 0 (-1) := ⟨_, rfl⟩
  have s2 : SM σ1 σ2 := by rw [hσ2]; exact (SM.u20 σ1 22 0 (Or.inl rfl)).tr (SM.uA _ 31 _ (by decide))
  have l2 : LV σ2 0 n0 g0 cr := by rw [hσ2]; exact a5
  have h31 : σ2.1 31 0 = -1 := by rw [hσ2, uI_s, va_up_self]
  have hB : MB n0 (fun _ _ => 0, 0) σ2 := ⟨by rw [hσ2]; rfl, fun k hk => absurd hk (Nat.not_lt_zero k)⟩
  have h8 : 8 ^ d ≤ 8 ^ 3 := Nat.pow_le_pow_right (by decide) hd
  obtain ⟨k, τ, k1, k2, k3, k4⟩ := bec_M v tu hn hd d 0 g0 cr (fun _ _ => 0, 0) σ2 (by omega) (a1.tr s2) t0 hc.1 l2 h31 (fun k hk => absurd hk (Nat.not_lt_zero k)) (by show 0 + 8 ^ d ≤ 512; omega) hB
  refine ⟨τ, (a1.tr s2).tr k2.1, ?_⟩
  have hk := cst_le d (by omega)
  have hf : fuel = (fuel - k - 1 + 1) + k := by rw [fuel_eq]; omega
  rw [f_X11_becomeOf, a4, o_bs, o_bs, o_bs, ← hσ2, hf, show (0 : Int32) = nI 0 from rfl, k4, f_X11_becomeOf_L18, if_pos (by decide), k3.1]
  rfl
theorem sp_become {t : Nat} {σ : ST} (h : Inv t σ) (a b c : Int32) : SP15 (Inv (t + 1)) σ a b c := by
  obtain ⟨z, cc, kd, on, ot, tn, nb, g0, n0, g1, n1, cr, m, v, tu, hc, sg, -⟩ := inv_all h
  obtain ⟨l1, l2⟩ := lacks_V v
  obtain ⟨t0, t1, r0, r1, e0, e1, lo0, lo1⟩ := tu
  have tu : TU σ g0 n0 g1 n1 := ⟨t0, t1, r0, r1, e0, e1, lo0, lo1⟩
  have h8 := t0.1
  rcases in0_M (x := a) (hi := 3) (n := 4) (by decide) (by decide) with ⟨d, d1, rfl, d3⟩ | ⟨d1, d3⟩
  · have x1 : ¬ nI d < 0 := nI_pos (by omega)
    have x2 : nI d ≤ 3 := nI_le (a := d) (b := 3) (by omega) (by decide)
    by_cases q : z = 0
    · rw [if_pos q] at l1 l2
      exact ⟨-103, σ, by rw [f_X10_become, if_neg x1, if_pos x2, l2]; rfl, σ, by rw [f_X11_become, d3, o_bs, if_neg (by decide), l1]; rfl, inv_mono t σ h⟩
    · rw [if_neg q] at l1 l2
      by_cases q2 : n0 = 0
      · refine ⟨-103, σ, ?_, σ, ?_, inv_mono t σ h⟩
        · rw [f_X10_become, if_neg x1, if_pos x2, l2, o_bs, if_pos rfl, lo0, if_pos ((enc_ne0 t0).mpr q2)]
        · rw [f_X11_become, d3, o_bs, if_neg (by decide), l1, o_bs, if_pos rfl, e0, if_pos (by rw [q2]; rfl)]
      · obtain ⟨τ, k1, k2⟩ := become_X (d := d) v tu hc q2 (by omega)
        have tu' := k1.tu tu
        obtain ⟨τ', j1, j2⟩ := become_M (d := d) (k1.vw v) tu' (k1.cr hc) q2 (by omega)
        have l1' := (lacks_V (k1.vw v)).1
        rw [if_neg q] at l1'
        refine ⟨nI (beV kd on ot tn nb n0 z d g0 cr), τ, ?_, τ', ?_, inv_mono t τ' (j1.inv (k1.inv h))⟩
        · rw [f_X10_become, if_neg x1, if_pos x2, l2, o_bs, if_pos rfl, lo0, if_neg (fun w => q2 ((enc_ne0 t0).mp w)), k2, o_b2s]
        · rw [f_X11_become, d3, o_bs, if_neg (by decide), l1', o_bs, if_pos rfl, tu'.2.2.2.2.1, if_neg (nI_ne0 (by omega) (by omega)), j2, o_b2s]
  · refine ⟨-102, σ, ?_, σ, by rw [f_X11_become, d3]; rfl, inv_mono t σ h⟩
    rw [f_X10_become]
    rcases d1 with d1 | d1
    · rw [if_pos d1]
    · by_cases w2 : a < 0
      · rw [if_pos w2]
      · rw [if_neg w2, if_neg (fun z => absurd (Int32.le_trans d1 z) (by decide))]
