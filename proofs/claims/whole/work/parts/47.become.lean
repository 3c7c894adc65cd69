/-! BECOME: both walks come to one list -/
noncomputable def bc (kd on ot tn : Nat → Nat) (b n z : Nat) : Nat → (Nat → Nat) → Nat → AC → AC
  | 0, g, _, a => mtS n g a
  | d + 1, g, cr, a => itr (fun i a => if PS kd on ot b g n cr i then bc kd on ot tn b n z d (tr (kd i) (tn i) g n) (on i + ot i - cr) a else a) 0 z a
noncomputable def bcS (kd on ot tn : Nat → Nat) (b n z d : Nat) (g : Nat → Nat) (cr i : Nat) (a : AC) : AC := if PS kd on ot b g n cr i then bc kd on ot tn b n z d (tr (kd i) (tn i) g n) (on i + ot i - cr) a else a
theorem bc_s (kd on ot tn : Nat → Nat) (b n z d : Nat) (g : Nat → Nat) (cr : Nat) (a : AC) : bc kd on ot tn b n z (d + 1) g cr a = itr (bcS kd on ot tn b n z d g cr) 0 z a := rfl
theorem bc_ok {kd on ot tn : Nat → Nat} {b n z : Nat} (hz : z ≤ 8) : ∀ d g cr a, TN g n → AOK n a → AOK n (bc kd on ot tn b n z d g cr a) ∧ (bc kd on ot tn b n z d g cr a).2 ≤ a.2 + 8 ^ d
  | 0, g, cr, a, hg, ha => by
    have := mt_ok ha hg
    exact ⟨this.1, this.2⟩
  | d + 1, g, cr, a, hg, ha => by
    have key := itr_inv (step := bcS kd on ot tn b n z d g cr) (fun j (x : AC) => AOK n x ∧ x.2 ≤ a.2 + j * 8 ^ d) z 0 a (fun i x h1 h2 h3 => by
      show AOK n (bcS kd on ot tn b n z d g cr i x) ∧ (bcS kd on ot tn b n z d g cr i x).2 ≤ a.2 + (i + 1) * 8 ^ d
      have e : (i + 1) * 8 ^ d = i * 8 ^ d + 8 ^ d := Nat.succ_mul _ _
      have p8 : 0 < 8 ^ d := Nat.pow_pos (by decide)
      unfold bcS
      split
      · have := bc_ok (kd := kd) (on := on) (ot := ot) (tn := tn) (b := b) hz d (tr (kd i) (tn i) g n) (on i + ot i - cr) x (tr_TN hg) h3.1
        exact ⟨this.1, by have h4 := h3.2; have h5 := this.2; omega⟩
      · exact ⟨h3.1, by have h4 := h3.2; omega⟩) ⟨ha, by omega⟩
    rw [bc_s]
    refine ⟨key.1, ?_⟩
    have h2 : (itr (bcS kd on ot tn b n z d g cr) 0 z a).2 ≤ a.2 + (0 + z) * 8 ^ d := key.2
    have h3 : (0 + z) * 8 ^ d ≤ 8 * 8 ^ d := Nat.mul_le_mul_right _ (by omega)
    rw [Nat.pow_succ, Nat.mul_comm (8 ^ d) 8]
    omega
theorem bec_X {σ : ST} {z c b n n1 : Nat} {kd on ot tn g0 g1 : Nat → Nat} (v : VW σ z c kd on ot tn b) (hn : n ≠ 0) : ∀ d D g cr (a : AC) (τ : ST), d < D → d ≤ 3 → SE σ τ → TN g n → cr < 5 → AOK n a → a.2 + 8 ^ d ≤ 512 → XI n a τ → ∃ τ', SE σ τ' ∧ XI n (bc kd on ot tn b n z d g cr a) τ' ∧ f_X9_meetTunes D (enc g n) (nI cr) (nI d) τ = some τ' := by
  have hz := v.z8
  intro d
  induction d with
  | zero =>
    intro D g cr a τ h1 _ h2 h3 h4 h5 h6 h7
    obtain ⟨D, rfl⟩ : ∃ D', D = D' + 1 := ⟨D - 1, by omega⟩
    obtain ⟨τ', k1, k2, k3⟩ := meet_X hn h3 h5 (by omega) h7
    exact ⟨τ', h2.tr k1, k3, by rw [f_X9_meetTunes, if_neg (by decide), k2, o_bs]⟩
  | succ d ih =>
    intro D g cr a τ h1 hd h2 h3 h4 h5 h6 h7
    obtain ⟨D, rfl⟩ : ∃ D', D = D' + 1 := ⟨D - 1, by omega⟩
    rw [f_X9_meetTunes, if_pos (show (0 : Int32) < nI (d + 1) from nI_lt (a := 0) (by omega) (by omega)), bc_s]
    have inner : ∀ r i fu (a : AC) (τ : ST), i + r = z → r < fu → SE σ τ → AOK n a → a.2 + r * 8 ^ d ≤ 512 → XI n a τ → ∃ τ', SE σ τ' ∧ XI n (itr (bcS kd on ot tn b n z d g cr) i r a) τ' ∧ f_X9_meetTunes_L14 (f_X9_meetTunes D) fu (enc g n) (nI cr) (nI (d + 1)) (nI i) τ = some τ' := by
      intro r
      induction r with
      | zero =>
        intro i fu a τ k1 k2 k3 k4 k5 k6
        obtain ⟨f, rfl⟩ : ∃ f, fu = f + 1 := ⟨fu - 1, by omega⟩
        exact ⟨τ, k3, k6, by rw [f_X9_meetTunes_L14, (k3.vw v).xz, if_pos (nI_le (by omega) (by omega))]⟩
      | succ r ih2 =>
        intro i fu a τ k1 k2 k3 k4 k5 k6
        obtain ⟨f, rfl⟩ : ∃ f, fu = f + 1 := ⟨fu - 1, by omega⟩
        have v' := k3.vw v
        have hi : i < z := by omega
        have hw := v'.row hi
        obtain ⟨ad, s, -, ep⟩ := pass_V v' (g := g) (n := n) (cr := cr) hi (by omega) h3
        have e : (r + 1) * 8 ^ d = r * 8 ^ d + 8 ^ d := Nat.succ_mul _ _
        have p8 : 0 < 8 ^ d := Nat.pow_pos (by decide)
        rw [f_X9_meetTunes_L14, v'.xz, if_neg (nI_ge hi (by omega)), ep, o_bs, itr]
        by_cases q : PS kd on ot b g n cr i
        · have eb : bcS kd on ot tn b n z d g cr i a = bc kd on ot tn b n z d (tr (kd i) (tn i) g n) (on i + ot i - cr) a := by rw [bcS, if_pos q]
          have hq := q.1
          have hb := bc_ok (kd := kd) (on := on) (ot := ot) (tn := tn) (b := b) hz d (tr (kd i) (tn i) g n) (on i + ot i - cr) a (tr_TN h3) k4
          obtain ⟨τ1, j1, j2, j3⟩ := ih D (tr (kd i) (tn i) g n) (on i + ot i - cr) a τ (by omega) (by omega) k3 (tr_TN h3) (by omega) k4 (by omega) k6
          obtain ⟨τ2, m1, m2, m3⟩ := ih2 (i + 1) f (bc kd on ot tn b n z d (tr (kd i) (tn i) g n) (on i + ot i - cr) a) τ1 (by omega) (by omega) j1 hb.1 (by have := hb.2; omega) j2
          rw [eb]
          refine ⟨τ2, m1, m2, ?_⟩
          rw [if_pos q]
          show ((f_X3_tonic τ (nI i)).bind fun r8 => (if pv τ ad then (f_X7_carry ad τ (enc g n) r8).bind fun r10 => (f_X7_across ad τ (nI cr)).bind fun r13 => (f_X9_meetTunes D r10 r13 (nI (d + 1) - 1) τ).bind fun σ15 => (some (nI i + 1)).bind fun x16 => f_X9_meetTunes_L14 (f_X9_meetTunes D) f (enc g n) (nI cr) (nI (d + 1)) x16 σ15 else none)) = _
          rw [tonic_V v' hi, o_bs, if_pos s.1, carry_X h3 (v'.2.1 i hi).1 hw.1 s.2.1, o_bs, across_V v' hi s q.1, o_bs, nI_pred, j3, o_bs, o_bs, nI_1]
          exact m3
        · have eb : bcS kd on ot tn b n z d g cr i a = a := by rw [bcS, if_neg q]
          rw [eb, if_neg q]
          show ∃ τ', SE σ τ' ∧ _ ∧ ((some (nI i + 1)).bind fun x6 => f_X9_meetTunes_L14 (f_X9_meetTunes D) f (enc g n) (nI cr) (nI (d + 1)) x6 τ) = some τ'
          rw [o_bs, nI_1]
          exact ih2 (i + 1) f a τ (by omega) (by omega) k3 k4 (by omega) k6
    have e8 : z * 8 ^ d ≤ 8 * 8 ^ d := Nat.mul_le_mul_right _ hz
    have e9 : 8 ^ (d + 1) = 8 * 8 ^ d := by rw [Nat.pow_succ, Nat.mul_comm]
    exact inner z 0 fuel a τ (by omega) (by rw [fuel_eq]; omega) h2 h5 (by omega) h7
/-- how many turns the reference's loop takes at most -/
def cst : Nat → Nat
  | 0 => 1
  | d + 1 => 8 * (cst d + 1) + 1
theorem bec_M {σ : ST} {z c b n n1 : Nat} {kd on ot tn g0 g1 : Nat → Nat} (v : VW σ z c kd on ot tn b) (tu : TU σ g0 n g1 n1) (hn : n ≠ 0) {many : Nat} (hm : many ≤ 3) : ∀ d j g cr (a : AC) (τ : ST), j + d = many → SM σ τ → TN g n → cr < 5 → LV τ j n g cr → τ.1 31 j = -1 → AOK n a → a.2 + 8 ^ d ≤ 512 → MB n a τ → ∃ k τ', k ≤ cst d ∧ FR j τ τ' ∧ MB n (bc kd on ot tn b n z d g cr a) τ' ∧ ∀ fu, f_X11_becomeOf_L18 (fu + k) (nI many) (nI j) τ = f_X11_becomeOf_L18 fu (nI many) (nI j + (-1)) τ' := by
  have hz := v.z8
  intro d
  induction d with
  | zero =>
    intro j g cr a τ h1 h2 h3 h4 h5 h6 h7 h8 h9
    have : j = many := by omega
    subst this
    obtain ⟨-, -, -, -, e0, -, -, -⟩ := h2.tu tu
    obtain ⟨τ', k1, k2, k3, k4, k5, k6⟩ := meet_M (by omega) h3 h5 e0 h9 h7 (by omega)
    refine ⟨1, τ', Nat.le_refl 1, ⟨k1, fun k _ => congrFun k2 k, fun k _ => congrFun k3 k, fun k _ => congrFun k4 k⟩, k6, fun fu => ?_⟩
    rw [f_X11_becomeOf_L18, if_neg (nI_pos (by omega)), if_pos rfl, k5, o_bs, o_bs]
  | succ d ih =>
    intro j g cr a τ h1 h2 h3 h4 h5 h6 h7 h8 h9
    have h8n := h3.1
    have hj : j < 5 := by omega
    have nd : ∀ f (υ : ST), f_X11_becomeOf_L18 (f + 1) (nI many) (nI j) υ = ndE (f_X11_becomeOf_L18 f (nI many)) (nI j) υ := fun f υ => by
      rw [f_X11_becomeOf_L18, if_neg (nI_pos (by omega)), if_neg (fun w => absurd ((nI_eq (by omega) (by omega)).mp w) (by omega))]
      rfl
    have inner : ∀ r i (a : AC) (τ : ST), i + r = z → SM σ τ → LV τ j n g cr → τ.1 31 j + 1 = nI i → AOK n a → a.2 + r * 8 ^ d ≤ 512 → MB n a τ → ∃ k τ', k ≤ r * (cst d + 1) + 1 ∧ FR j τ τ' ∧ MB n (itr (bcS kd on ot tn b n z d g cr) i r a) τ' ∧ ∀ fu, f_X11_becomeOf_L18 (fu + k) (nI many) (nI j) τ = f_X11_becomeOf_L18 fu (nI many) (nI j + (-1)) τ' := by
      intro r
      induction r with
      | zero =>
        intro i a τ k1 k2 k3 k4 k5 k6 k7
        have : i = z := by omega
        subst this
        obtain ⟨τ', a1, a2, a3, a4⟩ := nd_end (k2.vw v) (show j < 6 by omega) k4
        refine ⟨1, τ', by omega, a1, k7.cp a2 a3, fun fu => ?_⟩
        rw [nd, a4]
      | succ r ih2 =>
        intro i a τ k1 k2 k3 k4 k5 k6 k7
        have v' := k2.vw v
        have hi : i < z := by omega
        have hw := v'.row hi
        have e : (r + 1) * 8 ^ d = r * 8 ^ d + 8 ^ d := Nat.succ_mul _ _
        have p8 : 0 < 8 ^ d := Nat.pow_pos (by decide)
        have e' : (r + 1) * (cst d + 1) = r * (cst d + 1) + (cst d + 1) := Nat.succ_mul _ _
        obtain ⟨τ1, b1, b2, b3, b4, b5⟩ := nd_in v' (k2.tu tu) hj hi hn h3 h4 k3 k4
        have l1 := b1.lv h8n k3
        have m1 := k7.cp b3 b4
        have t1 : τ1.1 31 j + 1 = nI (i + 1) := by rw [b2, nI_1]
        rw [itr]
        by_cases q : PS kd on ot b g n cr i
        · have eb : bcS kd on ot tn b n z d g cr i a = bc kd on ot tn b n z d (tr (kd i) (tn i) g n) (on i + ot i - cr) a := by rw [bcS, if_pos q]
          have hq := q.1
          have hb := bc_ok (kd := kd) (on := on) (ot := ot) (tn := tn) (b := b) hz d (tr (kd i) (tn i) g n) (on i + ot i - cr) a (tr_TN h3) k5
          obtain ⟨c1, c2, c3⟩ := b5.1 q
          obtain ⟨kA, τ2, d1, d2, d3, d4⟩ := ih (j + 1) (tr (kd i) (tn i) g n) (on i + ot i - cr) a τ1 (by omega) (k2.tr b1.1) (tr_TN h3) (by omega) c1 c2 k5 (by omega) m1
          obtain ⟨f1, f2⟩ := d2.up
          obtain ⟨kB, τ3, g1', g2', g3', g4'⟩ := ih2 (i + 1) (bc kd on ot tn b n z d (tr (kd i) (tn i) g n) (on i + ot i - cr) a) τ2 (by omega) ((k2.tr b1.1).tr f1.1) (f1.lv h8n l1) (by rw [f2]; exact t1) hb.1 (by have := hb.2; omega) d3
          rw [eb]
          refine ⟨kB + kA + 1, τ3, by omega, (b1.tr f1).tr g2', g3', fun fu => ?_⟩
          rw [show fu + (kB + kA + 1) = (fu + kB + kA) + 1 by omega, nd, c3, d4, pk_m1, g4']
        · have eb : bcS kd on ot tn b n z d g cr i a = a := by rw [bcS, if_neg q]
          obtain ⟨kB, τ3, g1', g2', g3', g4'⟩ := ih2 (i + 1) a τ1 (by omega) (k2.tr b1.1) l1 t1 k5 (by omega) m1
          rw [eb]
          refine ⟨kB + 1, τ3, by omega, b1.tr g2', g3', fun fu => ?_⟩
          rw [show fu + (kB + 1) = (fu + kB) + 1 by omega, nd, b5.2 q, g4']
    have e8 : z * 8 ^ d ≤ 8 * 8 ^ d := Nat.mul_le_mul_right _ hz
    have e9 : 8 ^ (d + 1) = 8 * 8 ^ d := by rw [Nat.pow_succ, Nat.mul_comm]
    have e10 : z * (cst d + 1) ≤ 8 * (cst d + 1) := Nat.mul_le_mul_right _ hz
    obtain ⟨k, τ', w1, w2, w3, w4⟩ := inner z 0 a τ (by omega) h2 h5 (by rw [h6]; rfl) h7 (by omega) h9
    exact ⟨k, τ', by rw [cst]; omega, w2, w3, w4⟩
