/-! the reference's walk over all ways: one step of it -/
/-- level j of its rows: the tune and the corner there -/
def LV (τ : ST) (j n : Nat) (g : Nat → Nat) (cr : Nat) : Prop := (∀ k, k < n → τ.1 29 (8 * j + k) = nI (g k)) ∧ τ.1 30 j = nI cr
/-- what stays while one is at level j or below -/
def FR (j : Nat) (τ τ' : ST) : Prop := SM τ τ' ∧ (∀ k, k < 8 * (j + 1) → τ'.1 29 k = τ.1 29 k) ∧ (∀ k, k ≤ j → τ'.1 30 k = τ.1 30 k) ∧ ∀ k, k < j → τ'.1 31 k = τ.1 31 k
theorem FR.tr {j : Nat} {a b c : ST} (h : FR j a b) (k : FR j b c) : FR j a c := ⟨h.1.tr k.1, fun i hi => (k.2.1 i hi).trans (h.2.1 i hi), fun i hi => (k.2.2.1 i hi).trans (h.2.2.1 i hi), fun i hi => (k.2.2.2 i hi).trans (h.2.2.2 i hi)⟩
theorem FR.up {j : Nat} {a b : ST} (h : FR (j + 1) a b) : FR j a b ∧ b.1 31 j = a.1 31 j := ⟨⟨h.1, fun k hk => h.2.1 k (by omega), fun k hk => h.2.2.1 k (by omega), fun k hk => h.2.2.2 k (by omega)⟩, h.2.2.2 j (by omega)⟩
theorem FR.lv {j n cr : Nat} {g : Nat → Nat} {a b : ST} (h : FR j a b) (hn : n ≤ 8) (l : LV a j n g cr) : LV b j n g cr := ⟨fun k hk => by rw [h.2.1 _ (by omega)]; exact l.1 k hk, by rw [h.2.2.1 j (Nat.le_refl j)]; exact l.2⟩
theorem mul8 (j : Nat) : (8 : Int32) * nI j = nI (8 * j) := pk_mul 8 j
theorem goOn_in {τ : ST} {j : Nat} (hj : j < 6) (s : Int32) : f_X11_goOn (nI j) s τ = f_X11_goOn_B31 (nI j) s (uA τ 28 (fun k => if k < 8 then τ.1 29 (8 * j + k) else τ.1 28 k)) := by
  rw [f_X11_goOn]
  have e0 : τ = uA τ 28 (fun k => if k < 0 then τ.1 29 (8 * j + k) else τ.1 28 k) := (uA_self τ 28 _ (fun k => by rw [if_neg (by omega)])).symm
  have key := loopJ (fun fu m => f_X11_goOn_L2 fu (nI j) s (nI m) (uA τ 28 (fun k => if k < m then τ.1 29 (8 * j + k) else τ.1 28 k))) 8 (f_X11_goOn_B31 (nI j) s (uA τ 28 (fun k => if k < 8 then τ.1 29 (8 * j + k) else τ.1 28 k))) (fun f m hm => by
    show f_X11_goOn_L2 (f + 1) (nI j) s (nI m) (uA τ 28 (fun k => if k < m then τ.1 29 (8 * j + k) else τ.1 28 k)) = f_X11_goOn_L2 f (nI j) s (nI (m + 1)) (uA τ 28 (fun k => if k < m + 1 then τ.1 29 (8 * j + k) else τ.1 28 k))
    rw [f_X11_goOn_L2, if_neg (show ¬ (8 : Int32) ≤ nI m from nI_ge (a := m) (b := 8) hm (by decide)), mul8, nI_add, if_pos (by rw [q_in (by omega)]; omega), if_pos (by rw [q_in (by omega)]; omega), q_cl (by omega), q_cl (by omega), uA_n _ _ _ (by decide), uA_uI, o_bs, o_bs, nI_1]
    refine congrArg (fun z => f_X11_goOn_L2 f (nI j) s (nI (m + 1)) (uA τ 28 z)) (funext fun k => ?_)
    by_cases q : k = m
    · subst q; rw [va_up_self, if_pos (by omega)]
    · rw [va_up_ne _ _ q]
      by_cases q2 : k < m
      · rw [if_pos q2, if_pos (by omega)]
      · rw [if_neg q2, if_neg (by omega)]) (fun f => by
    show f_X11_goOn_L2 (f + 1) (nI j) s (nI 8) (uA τ 28 (fun k => if k < 8 then τ.1 29 (8 * j + k) else τ.1 28 k)) = _
    rw [f_X11_goOn_L2, if_pos (by decide)]) 8 0 fuel (by decide) (by rw [fuel_eq]; omega)
  rw [← e0] at key
  exact key
def lay29 (τ : ST) (j m : Nat) : Nat → Int32 := fun u => if 8 * j + 8 ≤ u ∧ u < 8 * j + 8 + m then τ.1 28 (u - (8 * j + 8)) else τ.1 29 u
theorem goOn_out {τ : ST} {j : Nat} (hj : j < 5) (s : Int32) : f_X11_goOn_L78 fuel (nI j) s 0 τ = f_X11_goOn_B110 (nI j) s (uA τ 29 (lay29 τ j 8)) := by
  have e0 : τ = uA τ 29 (lay29 τ j 0) := (uA_self τ 29 _ (fun k => by rw [lay29, if_neg (by omega)])).symm
  have key := loopJ (fun fu m => f_X11_goOn_L78 fu (nI j) s (nI m) (uA τ 29 (lay29 τ j m))) 8 (f_X11_goOn_B110 (nI j) s (uA τ 29 (lay29 τ j 8))) (fun f m hm => by
    show f_X11_goOn_L78 (f + 1) (nI j) s (nI m) (uA τ 29 (lay29 τ j m)) = f_X11_goOn_L78 f (nI j) s (nI (m + 1)) (uA τ 29 (lay29 τ j (m + 1)))
    have e8 : nI (8 * j) + 8 = nI (8 * j + 8) := nI_add _ 8
    rw [f_X11_goOn_L78, if_neg (show ¬ (8 : Int32) ≤ nI m from nI_ge (a := m) (b := 8) hm (by decide)), mul8, e8, nI_add, if_pos (by rw [q_in (by omega)]; omega), if_pos (by rw [q_in (by omega)]; omega), q_cl (by omega), q_cl (by omega), uA_n _ _ _ (by decide), uA_uI, o_bs, o_bs, nI_1]
    refine congrArg (fun z => f_X11_goOn_L78 f (nI j) s (nI (m + 1)) (uA τ 29 z)) (funext fun u => ?_)
    by_cases q : u = 8 * j + 8 + m
    · subst q; rw [va_up_self, lay29, if_pos (by omega), show 8 * j + 8 + m - (8 * j + 8) = m by omega]
    · rw [va_up_ne _ _ q, lay29, lay29]
      by_cases q2 : 8 * j + 8 ≤ u ∧ u < 8 * j + 8 + m
      · rw [if_pos q2, if_pos (by omega)]
      · rw [if_neg q2, if_neg (by omega)]) (fun f => by
    show f_X11_goOn_L78 (f + 1) (nI j) s (nI 8) (uA τ 29 (lay29 τ j 8)) = _
    rw [f_X11_goOn_L78, if_pos (by decide)]) 8 0 fuel (by decide) (by rw [fuel_eq]; omega)
  rw [← e0] at key
  exact key
theorem goOn_M {τ : ST} {z c b j i cr n n1 : Nat} {kd on ot tn g g0 g1 : Nat → Nat} (v : VW τ z c kd on ot tn b) (tu : TU τ g0 n g1 n1) (hj : j < 5) (hi : i < z) (hn : n ≠ 0) (hg : TN g n) (hc : cr < 5) (l : LV τ j n g cr) : ∃ τ', SM τ τ' ∧ τ'.1 32 = τ.1 32 ∧ τ'.1 20 = τ.1 20 ∧ τ'.1 31 = τ.1 31 ∧ (∀ k, k < 8 * (j + 1) → τ'.1 29 k = τ.1 29 k) ∧ (∀ k, k ≤ j → τ'.1 30 k = τ.1 30 k) ∧ f_X11_goOn (nI j) (nI i) τ = some (if PS kd on ot b g n cr i then 1 else 0, τ') ∧ (PS kd on ot b g n cr i → LV τ' (j + 1) n (tr (kd i) (tn i) g n) (on i + ot i - cr)) := by
  have h8 := hg.1
  obtain ⟨τ1, hτ1⟩ : ∃ τ1, τ1 = uA τ 28 (fun k => if k < 8 then τ.1 29 (8 * j + k) else τ.1 28 k) := ⟨_, rfl⟩
  have s1 : SM τ τ1 := by rw [hτ1]; exact SM.uA τ 28 _ (by decide)
  have v1 := s1.vw v
  have tu1 := s1.tu tu
  obtain ⟨-, -, -, -, e0, -, -, -⟩ := tu1
  have r28 : RW τ1 28 g n := fun k hk => by rw [hτ1, uA_1, if_pos (by omega)]; exact l.1 k hk
  have e30 : τ1.1 30 = τ.1 30 := by rw [hτ1]; rfl
  have e29 : τ1.1 29 = τ.1 29 := by rw [hτ1]; rfl
  have e31 : τ1.1 31 = τ.1 31 := by rw [hτ1]; rfl
  have e32 : τ1.1 32 = τ.1 32 := by rw [hτ1]; rfl
  have e20 : τ1.1 20 = τ.1 20 := by rw [hτ1]; rfl
  have i6 : inB (nI j) 6 := by rw [q_in (by omega)]; omega
  rw [goOn_in (by omega), ← hτ1, f_X11_goOn_B31, if_pos i6, q_cl (by omega), e30, l.2, endsAt_M v1 hi (by omega), o_bs, e0, isOpen_M v1 hi hg r28]
  by_cases q : EN on ot i cr
  · rw [if_pos q, if_neg (by decide), o_bs]
    by_cases q2 : OP kd b g n i
    · obtain ⟨τ2, hτ2⟩ : ∃ τ2, τ2 = uA τ1 28 (mx (τ1.1 28) (tr (kd i) (tn i) g n) n) := ⟨_, rfl⟩
      have s2 : SM τ1 τ2 := by rw [hτ2]; exact SM.uA τ1 28 _ (by decide)
      have r2 : RW τ2 28 (tr (kd i) (tn i) g n) n := by rw [hτ2]; exact mx_RW
      obtain ⟨τ3, hτ3⟩ : ∃ τ3, τ3 = uA τ2 29 (lay29 τ2 j 8) := ⟨_, rfl⟩
      have s3 : SM τ2 τ3 := by rw [hτ3]; exact SM.uA τ2 29 _ (by decide)
      have v3 := s3.vw (s2.vw v1)
      have f30 : τ3.1 30 = τ.1 30 := by rw [hτ3, hτ2]; exact e30
      have i6' : inB (nI (j + 1)) 6 := by rw [q_in (by omega)]; omega
      have s4 : SM τ3 (uI τ3 30 (j + 1) (nI (on i + ot i - cr))) := SM.uA τ3 30 _ (by decide)
      refine ⟨uI τ3 30 (j + 1) (nI (on i + ot i - cr)), ((s1.tr s2).tr s3).tr s4, ?_, ?_, ?_, fun k hk => ?_, fun k hk => ?_, ?_, fun _ => ⟨fun k hk => ?_, ?_⟩⟩
      · rw [hτ3, hτ2]; exact e32
      · rw [hτ3, hτ2]; exact e20
      · rw [hτ3, hτ2]; exact e31
      · show τ3.1 29 k = _
        rw [hτ3, uA_1, lay29, if_neg (by omega), hτ2]
        exact congrFun e29 k
      · rw [uI_s, va_up_ne _ _ (by omega), f30]
      · rw [if_pos q2, if_neg (by decide), goStreet_M v1 hi hg (by omega) r28, o_bs, ← hτ2, goOn_out hj, ← hτ3, f_X11_goOn_B110, if_pos i6, q_cl (by omega), f30, l.2, otherEnd_M v3 hi q, o_bs, nI_1, if_pos i6', q_cl (by omega), o_bs, if_pos ⟨q, q2⟩]
      · show τ3.1 29 (8 * (j + 1) + k) = _
        rw [hτ3, uA_1, lay29, if_pos (by omega), show 8 * (j + 1) + k - (8 * j + 8) = k by omega]
        exact r2 k hk
      · rw [uI_s, va_up_self]
    · refine ⟨τ1, s1, e32, e20, e31, fun k _ => congrFun e29 k, fun k _ => congrFun e30 k, ?_, fun w => absurd w.2 q2⟩
      rw [if_neg q2, if_pos rfl, if_neg (fun w => q2 w.2)]
  · refine ⟨τ1, s1, e32, e20, e31, fun k _ => congrFun e29 k, fun k _ => congrFun e30 k, ?_, fun w => absurd w.1 q⟩
    rw [if_neg q, if_pos rfl, if_neg (fun w => q w.1)]
/-- one turn of the loop at a level that is not the last -/
noncomputable def ndE (K : Int32 → ST → Option (Int32 × ST)) (v2 : Int32) (σ : ST) : Option (Int32 × ST) := (if inB v2 6 then (if inB v2 6 then (some (uI σ 31 (v2.toNatClampNeg) ((σ.1 31 v2.toNatClampNeg) + 1))).bind fun σ8 => (if inB v2 6 then (if (σ8.1 31 v2.toNatClampNeg) = (σ8.1 20 3) then (some (v2 + (-1))).bind fun x20 => K x20 σ8 else (if inB v2 6 then o_b2 (f_X11_goOn v2 (σ8.1 31 v2.toNatClampNeg) σ8) fun r15 σ14 => (if r15 = 0 then K v2 σ14 else (some (v2 + 1)).bind fun x17 => (if inB x17 6 then (some (uI σ14 31 (x17.toNatClampNeg) (-1))).bind fun σ18 => K x17 σ18 else none)) else none)) else none) else none) else none)
theorem nd_end {τ : ST} {z c b j : Nat} {kd on ot tn : Nat → Nat} (v : VW τ z c kd on ot tn b) (hj : j < 6) (h : τ.1 31 j + 1 = nI z) : ∃ τ', FR j τ τ' ∧ τ'.1 32 = τ.1 32 ∧ τ'.1 20 = τ.1 20 ∧ ∀ K, ndE K (nI j) τ = K (nI j + (-1)) τ' := by
  have i6 : inB (nI j) 6 := by rw [q_in (by omega)]; omega
  have k20 : (uI τ 31 j (nI z)).1 20 3 = τ.1 20 3 := rfl
  refine ⟨uI τ 31 j (nI z), ⟨SM.uA τ 31 _ (by decide), fun _ _ => rfl, fun _ _ => rfl, fun k hk => ?_⟩, rfl, rfl, fun K => ?_⟩
  · rw [uI_s, va_up_ne _ _ (by omega)]
  · rw [ndE, if_pos i6, if_pos i6, o_bs, if_pos i6, if_pos i6, q_cl (by omega), h, k20, v.mz, uI_s, va_up_self, if_pos rfl, o_bs]
theorem nd_in {τ : ST} {z c b j i cr n n1 : Nat} {kd on ot tn g g0 g1 : Nat → Nat} (v : VW τ z c kd on ot tn b) (tu : TU τ g0 n g1 n1) (hj : j < 5) (hi : i < z) (hn : n ≠ 0) (hg : TN g n) (hc : cr < 5) (l : LV τ j n g cr) (h : τ.1 31 j + 1 = nI i) : ∃ τ', FR j τ τ' ∧ τ'.1 31 j = nI i ∧ τ'.1 32 = τ.1 32 ∧ τ'.1 20 = τ.1 20 ∧ (PS kd on ot b g n cr i → LV τ' (j + 1) n (tr (kd i) (tn i) g n) (on i + ot i - cr) ∧ τ'.1 31 (j + 1) = -1 ∧ ∀ K, ndE K (nI j) τ = K (nI (j + 1)) τ') ∧ (¬ PS kd on ot b g n cr i → ∀ K, ndE K (nI j) τ = K (nI j) τ') := by
  have hz := v.z8
  have i6 : inB (nI j) 6 := by rw [q_in (by omega)]; omega
  have i6' : inB (nI (j + 1)) 6 := by rw [q_in (by omega)]; omega
  obtain ⟨τ1, hτ1⟩ : ∃ τ1, τ1 = uI τ 31 j (nI i) := ⟨_, rfl⟩
  have s1 : SM τ τ1 := by rw [hτ1]; exact SM.uA τ 31 _ (by decide)
  have e31 : τ1.1 31 = va_up (τ.1 31) j (nI i) := by rw [hτ1]; rfl
  have e29 : τ1.1 29 = τ.1 29 := by rw [hτ1]; rfl
  have e30 : τ1.1 30 = τ.1 30 := by rw [hτ1]; rfl
  have e32 : τ1.1 32 = τ.1 32 := by rw [hτ1]; rfl
  have e20 : τ1.1 20 = τ.1 20 := by rw [hτ1]; rfl
  have v1 := s1.vw v
  have l1 : LV τ1 j n g cr := by
    unfold LV
    rw [e29, e30]; exact l
  obtain ⟨τ2, a1, a2, a3, a4, a5, a6, a7, a8⟩ := goOn_M v1 (s1.tu tu) hj hi hn hg hc l1
  have eN : ∀ K, ndE K (nI j) τ = (if (if PS kd on ot b g n cr i then (1 : Int32) else 0) = 0 then K (nI j) τ2 else K (nI (j + 1)) (uI τ2 31 (j + 1) (-1))) := fun K => by
    rw [ndE, if_pos i6, if_pos i6, o_bs, if_pos i6, if_pos i6, q_cl (by omega), h, ← hτ1, e31, va_up_self, v1.mz, if_neg (fun w => absurd ((nI_eq (by omega) (by omega)).mp w) (by omega)), a7, o_b2s, o_bs, nI_1, if_pos i6', q_cl (by omega), o_bs]
  by_cases q : PS kd on ot b g n cr i
  · refine ⟨uI τ2 31 (j + 1) (-1), ⟨(s1.tr a1).tr (SM.uA τ2 31 _ (by decide)), fun k hk => ?_, fun k hk => ?_, fun k hk => ?_⟩, ?_, ?_, ?_, fun _ => ⟨?_, ?_, ?_⟩, fun w => absurd q w⟩
    · show τ2.1 29 k = _
      rw [a5 k hk, e29]
    · show τ2.1 30 k = _
      rw [a6 k hk, e30]
    · rw [uI_s, va_up_ne _ _ (by omega), a4, e31, va_up_ne _ _ (by omega)]
    · rw [uI_s, va_up_ne _ _ (by omega), a4, e31, va_up_self]
    · show τ2.1 32 = _
      rw [a2, e32]
    · show τ2.1 20 = _
      rw [a3, e20]
    · exact a8 q
    · rw [uI_s, va_up_self]
    · exact fun K => by rw [eN, if_pos q, if_neg (by decide)]
  · refine ⟨τ2, ⟨s1.tr a1, fun k hk => by rw [a5 k hk, e29], fun k hk => by rw [a6 k hk, e30], fun k hk => by rw [a4, e31, va_up_ne _ _ (by omega)]⟩, by rw [a4, e31, va_up_self], by rw [a2, e32], by rw [a3, e20], fun w => absurd w q, fun _ K => ?_⟩
    rw [eN, if_neg q, if_pos rfl]
theorem begin_M {τ : ST} {cr n : Nat} {g : Nat → Nat} (hn : n ≤ 8) (r : RW τ 25 g n) (h : τ.1 20 4 = nI cr) : ∃ τ', SM τ τ' ∧ τ'.1 32 = τ.1 32 ∧ τ'.1 20 = τ.1 20 ∧ f_X11_beginWalk τ = some τ' ∧ LV τ' 0 n g cr := by
  rw [f_X11_beginWalk]
  have e0 : τ = uA τ 29 (fun k => if k < 0 then τ.1 25 k else τ.1 29 k) := (uA_self τ 29 _ (fun k => by rw [if_neg (by omega)])).symm
  have key := loopJ (fun fu m => f_X11_beginWalk_L2 fu (nI m) (uA τ 29 (fun k => if k < m then τ.1 25 k else τ.1 29 k))) 8 (some (uI (uA τ 29 (fun k => if k < 8 then τ.1 25 k else τ.1 29 k)) 30 0 (nI cr))) (fun f m hm => by
    show f_X11_beginWalk_L2 (f + 1) (nI m) (uA τ 29 (fun k => if k < m then τ.1 25 k else τ.1 29 k)) = f_X11_beginWalk_L2 f (nI (m + 1)) (uA τ 29 (fun k => if k < m + 1 then τ.1 25 k else τ.1 29 k))
    rw [f_X11_beginWalk_L2, if_neg (show ¬ (8 : Int32) ≤ nI m from nI_ge (a := m) (b := 8) hm (by decide)), if_pos (by rw [q_in (by omega)]; omega), if_pos (by rw [q_in (by omega)]; omega), q_cl (by omega), uA_n _ _ _ (by decide), uA_uI, o_bs, o_bs, nI_1]
    refine congrArg (fun z => f_X11_beginWalk_L2 f (nI (m + 1)) (uA τ 29 z)) (funext fun k => ?_)
    by_cases q : k = m
    · subst q; rw [va_up_self, if_pos (by omega)]
    · rw [va_up_ne _ _ q]
      by_cases q2 : k < m
      · rw [if_pos q2, if_pos (by omega)]
      · rw [if_neg q2, if_neg (by omega)]) (fun f => by
    show f_X11_beginWalk_L2 (f + 1) (nI 8) (uA τ 29 (fun k => if k < 8 then τ.1 25 k else τ.1 29 k)) = _
    rw [f_X11_beginWalk_L2, if_pos (by decide), uA_n _ _ _ (by decide), h, o_bs]) 8 0 fuel (by decide) (by rw [fuel_eq]; omega)
  rw [← e0] at key
  refine ⟨_, (SM.uA τ 29 (fun k => if k < 8 then τ.1 25 k else τ.1 29 k) (by decide)).tr (SM.uA _ 30 _ (by decide)), rfl, rfl, key, fun k hk => ?_, rfl⟩
  show (if 8 * 0 + k < 8 then τ.1 25 (8 * 0 + k) else τ.1 29 (8 * 0 + k)) = _
  rw [if_pos (by omega), show 8 * 0 + k = k by omega]
  exact r k hk
