/-! WAY: the class -/
theorem makes_L {σ : ST} {a kd t n n1 : Nat} {g g1 : Nat → Nat} (h : TN g n) (h1 : TN g1 n1) (ht : t < 12) (hkd : kd < 5) (hK : σ.2.2.2.2.1 a = xk kd) : ∀ m j fu, j + m = n → m < fu → (∀ u, u < j → u < n1 ∧ tr kd t g n u = g1 u) → f_X7_makes_L3 a σ fu (enc g n) (nI t) (enc g1 n1) (nI j) = some (if enc (tr kd t g n) n = enc g1 n1 then 1 else 0) := by
  have h8 := h.1
  have h8' := h1.1
  have ee := enc_eq (tr_TN (kd := kd) (t := t) h) h1
  intro m
  induction m with
  | zero =>
    intro j fu k1 k2 k3
    obtain ⟨f, rfl⟩ : ∃ f, fu = f + 1 := ⟨fu - 1, by omega⟩
    have : j = n := by omega
    subst this
    have e46 : f_X7_makes_B46 a σ (enc g1 n1) (nI j) = some (if enc (tr kd t g j) j = enc g1 n1 then 1 else 0) := by
      rw [f_X7_makes_B46, note_enc h1 (by omega), o_bs, q_if ee]
      by_cases q : j < n1
      · have := h1.2 j q
        rw [nt_in q, if_neg (by rw [q_m1 (by omega)]; exact not_false), if_neg (fun w => by have := w.1; omega)]
      · have hjn : j = n1 := by
          rcases Nat.lt_or_ge n1 j with w | w
          · exact absurd (k3 n1 w).1 (Nat.lt_irrefl n1)
          · omega
        rw [nt_out q, if_pos rfl, if_pos ⟨hjn, fun u hu => (k3 u hu).2⟩]
    rw [f_X7_makes_L3]
    by_cases q : j = 8
    · rw [if_pos (by rw [q]; decide), e46]
    · rw [if_neg (show ¬ (8 : Int32) ≤ nI j from nI_ge (a := j) (b := 8) (by omega) (by decide)), note_enc h (by omega), nt_out (by omega), o_bs, if_pos rfl, e46]
  | succ m ih =>
    intro j fu k1 k2 k3
    obtain ⟨f, rfl⟩ : ∃ f, fu = f + 1 := ⟨fu - 1, by omega⟩
    have hj : j < n := by omega
    have hg := h.2 j hj
    have hl := tr_lt (kd := kd) (t := t) h hj
    rw [f_X7_makes_L3, if_neg (show ¬ (8 : Int32) ≤ nI j from nI_ge (a := j) (b := 8) (by omega) (by decide)), note_enc h (by omega), nt_in hj, o_bs, if_neg (by rw [q_m1 (by omega)]; exact not_false), hK, heard_X h hj ht hkd, o_bs, note_enc h1 (by omega), o_bs]
    by_cases q : j < n1
    · have hg1 := h1.2 j q
      rw [nt_in q, q_if (nI_eq (by omega) (by omega))]
      by_cases q2 : tr kd t g n j = g1 j
      · rw [if_pos q2, o_bs, nI_1]
        exact ih (j + 1) f (by omega) (by omega) (fun u hu => by
          by_cases q3 : u = j
          · rw [q3]; exact ⟨q, q2⟩
          · exact k3 u (by omega))
      · rw [if_neg q2, if_neg (fun w => q2 ((ee.mp w).2 j hj))]
    · rw [nt_out q, if_neg (by rw [q_m1 (by omega)]; exact not_false), if_neg (fun w => by have := (ee.mp w).1; omega)]
theorem makes_X {σ : ST} {a kd t n n1 : Nat} {g g1 : Nat → Nat} (h : TN g n) (h1 : TN g1 n1) (ht : t < 12) (hkd : kd < 5) (hK : σ.2.2.2.2.1 a = xk kd) : f_X7_makes a σ (enc g n) (nI t) (enc g1 n1) = some (if enc (tr kd t g n) n = enc g1 n1 then 1 else 0) := by
  have h8 := h.1
  exact makes_L h h1 ht hkd hK n 0 fuel (by omega) (by rw [fuel_eq]; omega) (fun u hu => absurd hu (Nat.not_lt_zero u))
/-- how a search comes out -/
def SO (σ : ST) (dp d : Nat) (o : Option WP) (r : Option (Int32 × ST)) : Prop := ∃ τ', SE σ τ' ∧ ((o = none ∧ r = some (0, τ')) ∨ ∃ p e, o = some (p, e) ∧ r = some (1, τ') ∧ (∀ u, u < d → τ'.1 12 (dp + u) = nI (p u)) ∧ τ'.1 3 5 = nI e)
theorem seek_L {σ : ST} {z c b n n1 : Nat} {kd on ot tn g0 g1 : Nat → Nat} (v : VW σ z c kd on ot tn b) (tu : TU σ g0 n g1 n1) {d dp cr : Nat} {g : Nat → Nat} {len : Int32} (hg : TN g n) (hc : cr < 5) (hdp : dp < 5) (rec : Int64 → Int32 → Int32 → Int32 → ST → Option (Int32 × ST))
    (hrec : d ≠ 0 → ∀ g cr (τ : ST), TN g n → cr < 5 → SE σ τ → SO σ (dp + 1) d (sk kd on ot tn b n z (enc g1 n1) d g cr) (rec (enc g n) (nI cr) (nI (dp + 1)) len τ)) :
    ∀ r i fu (τ : ST), i + r = z → r < fu → SE σ τ → SO σ dp (d + 1) (fsO (skF kd on ot tn b n z (enc g1 n1) d g cr) r i) (f_X9_seekWay_L43 rec fu (enc g n) (nI cr) (nI dp) len (if d = 0 then 1 else 0) (nI i) τ) := by
  have hz := v.z8
  intro r
  induction r with
  | zero =>
    intro i fu τ k1 k2 k3
    obtain ⟨f, rfl⟩ : ∃ f, fu = f + 1 := ⟨fu - 1, by omega⟩
    exact ⟨τ, k3, Or.inl ⟨rfl, by rw [f_X9_seekWay_L43, (k3.vw v).xz, if_pos (nI_le (by omega) (by omega))]⟩⟩
  | succ r ih =>
    intro i fu τ k1 k2 k3
    obtain ⟨f, rfl⟩ : ∃ f, fu = f + 1 := ⟨fu - 1, by omega⟩
    have v' := k3.vw v
    have hi : i < z := by omega
    have hw := v'.row hi
    obtain ⟨-, t1, -, -, -, -, -, l1⟩ := k3.tu tu
    obtain ⟨ad, s, -, ep⟩ := pass_V v' (g := g) (n := n) (cr := cr) hi (by omega) hg
    have nxt := fun τ1 (h : SE σ τ1) => ih (i + 1) f τ1 (by omega) (by omega) h
    rw [f_X9_seekWay_L43, v'.xz, if_neg (nI_ge hi (by omega)), ep, o_bs]
    by_cases q : PS kd on ot b g n cr i
    · have hq := q.1
      have ef : skF kd on ot tn b n z (enc g1 n1) d g cr i = (sk kd on ot tn b n z (enc g1 n1) d (tr (kd i) (tn i) g n) (on i + ot i - cr)).map (fun q => (pcs i q.1, q.2)) := by rw [skF, if_pos q]
      rw [if_pos q]
      show SO σ dp (d + 1) _ ((f_X3_tonic τ (nI i)).bind fun r12 => (if pv τ ad then (f_X7_across ad τ (nI cr)).bind fun r14 => (if (if d = 0 then (1 : Int32) else 0) = 0 then (f_X7_carry ad τ (enc g n) r12).bind fun r18 => o_b2 (rec r18 r14 (nI dp + 1) len τ) fun r21 σ20 => f_X9_seekWay_B135 rec (f_X9_seekWay_L43 rec f) (enc g n) (nI cr) (nI dp) len (if d = 0 then 1 else 0) (nI i) r14 r21 σ20 else (f_X7_makes ad τ (enc g n) r12 (τ.2.1 6 6)).bind fun r30 => f_X9_seekWay_B135 rec (f_X9_seekWay_L43 rec f) (enc g n) (nI cr) (nI dp) len (if d = 0 then 1 else 0) (nI i) r14 r30 τ) else none))
      rw [tonic_V v' hi, o_bs, if_pos s.1, across_V v' hi s q.1, o_bs]
      have i5 : inB (nI dp) 5 := by rw [q_in (by omega)]; omega
      by_cases d0 : d = 0
      · subst d0
        rw [if_pos rfl, if_neg (by decide), l1, makes_X hg t1 (v'.2.1 i hi).1 hw.1 s.2.1, o_bs, f_X9_seekWay_B135]
        rw [sk] at ef
        by_cases q2 : enc (tr (kd i) (tn i) g n) n = enc g1 n1
        · rw [if_pos q2] at ef ⊢
          rw [if_neg (by decide), fsO_s (x := (pcs i (fun _ => 0), on i + ot i - cr)) ef, f_X9_seekWay_B142, if_pos i5, q_cl (by omega), o_bs, if_neg (by decide), o_bs, o_bs]
          refine ⟨uI (uI τ 12 dp (nI i)) 3 5 (nI (on i + ot i - cr)), (k3.tr (SE.uA τ 12 _ (by decide))).tr (SE.x3 _ 5 _), Or.inr ⟨_, _, rfl, rfl, fun u hu => ?_, by rw [uI_s, va_up_self]⟩⟩
          rw [show u = 0 by omega]
          show (uI τ 12 dp (nI i)).1 12 dp = nI i
          rw [uI_s, va_up_self]
        · rw [if_neg q2] at ef ⊢
          rw [if_pos rfl, o_bs, nI_1, fsO_n ef]
          exact nxt τ k3
      · rw [if_neg d0, if_pos rfl, carry_X hg (v'.2.1 i hi).1 hw.1 s.2.1, o_bs, nI_1]
        obtain ⟨τ1, a1, a2⟩ := hrec d0 (tr (kd i) (tn i) g n) (on i + ot i - cr) τ (tr_TN hg) (by omega) k3
        rw [if_neg d0] at nxt
        rcases a2 with ⟨b1, b2⟩ | ⟨p, e, b1, b2, b3, b4⟩
        · rw [b1] at ef
          rw [b2, o_b2s, f_X9_seekWay_B135, if_pos rfl, o_bs, nI_1, fsO_n ef]
          exact nxt τ1 a1
        · rw [b1] at ef
          rw [b2, o_b2s, f_X9_seekWay_B135, if_neg (by decide), fsO_s (x := (pcs i p, e)) ef, f_X9_seekWay_B142, if_pos i5, q_cl (by omega), o_bs, if_pos rfl, o_bs, o_bs]
          refine ⟨uI (uI τ1 12 dp (nI i)) 3 5 ((uI τ1 12 dp (nI i)).1 3 5), (a1.tr (SE.uA τ1 12 _ (by decide))).tr (SE.x3 _ 5 _), Or.inr ⟨_, _, rfl, rfl, fun u hu => ?_, ?_⟩⟩
          · show (uI τ1 12 dp (nI i)).1 12 (dp + u) = _
            rw [uI_s]
            cases u with
            | zero => show va_up (τ1.1 12) dp (nI i) dp = nI i; rw [va_up_self]
            | succ u =>
              rw [va_up_ne _ _ (by omega), show dp + (u + 1) = dp + 1 + u by omega]
              exact b3 u (by omega)
          · rw [uI_s, va_up_self]
            exact b4
    · have ef : skF kd on ot tn b n z (enc g1 n1) d g cr i = none := by rw [skF, if_neg q]
      rw [if_neg q, fsO_n ef]
      show SO σ dp (d + 1) _ ((some (nI i + 1)).bind fun x10 => f_X9_seekWay_L43 rec f (enc g n) (nI cr) (nI dp) len (if d = 0 then 1 else 0) x10 τ)
      rw [o_bs, nI_1]
      exact nxt τ k3
theorem seek_X {σ : ST} {z c b n n1 : Nat} {kd on ot tn g0 g1 : Nat → Nat} (v : VW σ z c kd on ot tn b) (tu : TU σ g0 n g1 n1) {len : Nat} (hl : len ≤ 5) : ∀ d D dp g cr (τ : ST), d < D → dp + (d + 1) = len → TN g n → cr < 5 → SE σ τ → SO σ dp (d + 1) (sk kd on ot tn b n z (enc g1 n1) (d + 1) g cr) (f_X9_seekWay D (enc g n) (nI cr) (nI dp) (nI len) τ) := by
  have hz := v.z8
  intro d
  induction d with
  | zero =>
    intro D dp g cr τ h1 h2 h3 h4 h5
    obtain ⟨D, rfl⟩ : ∃ D', D = D' + 1 := ⟨D - 1, by omega⟩
    have e1 : nI len - 1 = nI (len - 1) := pk_sub (b := 1) (by omega)
    rw [f_X9_seekWay, if_neg (nI_pos (by omega)), if_neg (nI_ge (by omega) (by omega)), if_pos (show nI dp < 5 from nI_lt (a := dp) (b := 5) (by omega) (by decide)), e1, if_pos (by rw [show len - 1 = dp by omega]), o_bs, f_X9_seekWay_B38, sk_s]
    exact seek_L (d := 0) v tu h3 h4 (by omega) (f_X9_seekWay D) (fun w => absurd rfl w) z 0 fuel τ (by omega) (by rw [fuel_eq]; omega) h5
  | succ d ih =>
    intro D dp g cr τ h1 h2 h3 h4 h5
    obtain ⟨D, rfl⟩ : ∃ D', D = D' + 1 := ⟨D - 1, by omega⟩
    have e1 : nI len - 1 = nI (len - 1) := pk_sub (b := 1) (by omega)
    rw [f_X9_seekWay, if_neg (nI_pos (by omega)), if_neg (nI_ge (by omega) (by omega)), if_pos (show nI dp < 5 from nI_lt (a := dp) (b := 5) (by omega) (by decide)), e1, if_neg (fun w => absurd ((nI_eq (by omega) (by omega)).mp w) (by omega)), o_bs, f_X9_seekWay_B38, sk_s]
    exact seek_L (d := d + 1) v tu h3 h4 (by omega) (f_X9_seekWay D) (fun _ g cr τ k1 k2 k3 => ih D (dp + 1) g cr τ (by omega) (by omega) k1 k2 k3) z 0 fuel τ (by omega) (by rw [fuel_eq]; omega) h5
/-- how findWay comes out -/
def FO (σ : ST) (o : Option (Nat × WP)) (r : Option (Int32 × ST)) : Prop := ∃ τ', SE σ τ' ∧ ((o = none ∧ r = some (-1, τ')) ∨ ∃ m p e, m ≤ 5 ∧ o = some (m, p, e) ∧ r = some (nI m, τ') ∧ (∀ u, u < m → τ'.1 12 u = nI (p u)) ∧ τ'.1 3 5 = nI e)
theorem find_L {σ : ST} {z c b n n1 cr : Nat} {kd on ot tn g0 g1 : Nat → Nat} (v : VW σ z c kd on ot tn b) (tu : TU σ g0 n g1 n1) (hc : CR σ z c cr) : ∀ r m fu (τ : ST), (m + 1) + r = 6 → r < fu → SE σ τ → FO σ (wv kd on ot tn b n z (enc g1 n1) g0 cr r (m + 1)) (f_X9_findWay_L58 fu (nI (m + 1)) τ) := by
  intro r
  induction r with
  | zero =>
    intro m fu τ h1 h2 h3
    obtain ⟨f, rfl⟩ : ∃ f, fu = f + 1 := ⟨fu - 1, by omega⟩
    exact ⟨τ, h3, Or.inl ⟨rfl, by rw [f_X9_findWay_L58, show m + 1 = 6 by omega, if_pos (by decide)]⟩⟩
  | succ r ih =>
    intro m fu τ h1 h2 h3
    obtain ⟨f, rfl⟩ : ∃ f, fu = f + 1 := ⟨fu - 1, by omega⟩
    obtain ⟨t0, -, -, -, -, -, l0, -⟩ := h3.tu tu
    obtain ⟨c1, -, c3, -⟩ := h3.cr hc
    obtain ⟨τ1, a1, a2⟩ := seek_X v tu (len := m + 1) (by omega) m 8 0 g0 cr τ (by omega) (by omega) t0 c1 h3
    rw [f_X9_findWay_L58, if_neg (show ¬ (5 : Int32) < nI (m + 1) from nI_nlt (a := 5) (b := m + 1) (by omega) (by decide)), l0, c3, show (0 : Int32) = nI 0 from rfl]
    rcases a2 with ⟨b1, b2⟩ | ⟨p, e, b1, b2, b3, b4⟩
    · rw [b2, o_b2s, if_pos (show (0 : Int32) = nI 0 from rfl), o_bs, nI_1, wv_n b1]
      exact ih (m + 1) f τ1 (by omega) (by omega) a1
    · rw [b2, o_b2s, if_neg (by decide), wv_s b1]
      exact ⟨τ1, a1, Or.inr ⟨m + 1, p, e, by omega, rfl, rfl, fun u hu => by have := b3 u hu; rwa [Nat.zero_add] at this, b4⟩⟩
theorem wv_none {kd on ot tn : Nat → Nat} {b n z : Nat} {e1 : Int64} {g : Nat → Nat} {cr : Nat} (h : ∀ d, sk kd on ot tn b n z e1 d g cr = none) : ∀ r m, wv kd on ot tn b n z e1 g cr r m = none
  | 0, _ => rfl
  | r + 1, m => by rw [wv_n (h m), wv_none h r (m + 1)]
theorem find_X {σ : ST} {z c b n n1 cr : Nat} {kd on ot tn g0 g1 : Nat → Nat} (v : VW σ z c kd on ot tn b) (tu : TU σ g0 n g1 n1) (hc : CR σ z c cr) : FO σ (wv kd on ot tn b n z (enc g1 n1) g0 cr 6 0) (f_X9_findWay σ) := by
  have tu' := tu
  obtain ⟨t0, t1, r0, r1, e0, e1, l0, l1⟩ := tu
  have h8 := t0.1
  have h8' := t1.1
  rw [f_X9_findWay, l0, l1, hc.2.2.1]
  by_cases q : enc g0 n = enc g1 n1
  · rw [if_pos q, o_bs, wv_s (q := (fun _ => 0, cr)) (by rw [sk, if_pos q])]
    exact ⟨_, SE.x3 σ 5 _, Or.inr ⟨0, _, _, by omega, rfl, rfl, fun u hu => absurd hu (Nat.not_lt_zero u), by rw [uI_s, va_up_self]⟩⟩
  · rw [if_neg q, length_enc t0, o_bs, length_enc t1, o_bs, q_if (nI_eq (show n < 2 ^ 31 by omega) (show n1 < 2 ^ 31 by omega))]
    by_cases q2 : n = n1
    · rw [if_pos q2, wv_n (show sk kd on ot tn b n z (enc g1 n1) 0 g0 cr = none by rw [sk, if_neg q])]
      exact find_L v tu' hc 5 0 fuel σ (by decide) (by rw [fuel_eq]; omega) (SE.rf σ)
    · rw [if_neg q2, wv_none (fun d => sk_none t1 q2 d g0 cr t0)]
      exact ⟨σ, SE.rf σ, Or.inl ⟨rfl, rfl⟩⟩
theorem way_XB {σ τ : ST} {o : Option (Nat × WP)} {w : Int32} (hw : wOK w) (h : FO σ o (f_X9_findWay τ)) : ∃ τ', SE σ τ' ∧ (o_b2 (f_X9_findWay τ) fun r15 σ14 => (if r15 = (-1) then some (r15, σ14) else (if w = 0 then some (r15, σ14) else (if w = 1 then some (σ14.1 3 5, σ14) else (f_X9_wayStreet σ14 (w - 10) r15).bind fun r20 => some (r20, σ14))))) = some (wyA o w, τ') := by
  obtain ⟨τ', a1, a2⟩ := h
  refine ⟨τ', a1, ?_⟩
  rcases a2 with ⟨b1, b2⟩ | ⟨m, p, e, m5, b1, b2, b3, b4⟩
  · rw [b2, b1, o_b2s, if_pos rfl]; rfl
  · rw [b2, b1, o_b2s, if_neg (by rw [q_m1 (by omega)]; exact not_false), wyA, b4]
    by_cases q0 : w = 0
    · rw [if_pos q0, if_pos q0]
    · rw [if_neg q0, if_neg q0]
      by_cases q1 : w = 1
      · rw [if_pos q1, if_pos q1]
      · rw [if_neg q1, if_neg q1]
        rcases hw with q | q | ⟨k, k1, k2, k3⟩
        · exact absurd q q0
        · exact absurd q q1
        · rw [k3, f_X9_wayStreet, if_neg (nI_pos (by omega)), if_neg (show ¬ (5 : Int32) ≤ nI k from nI_ge (a := k) (b := 5) k1 (by decide)), if_pos (show inB (nI k) 5 by rw [q_in (by omega)]; omega), q_cl (by omega)]
          by_cases q2 : m ≤ k
          · rw [if_pos (nI_le q2 (by omega)), o_bs, if_pos (nI_le q2 (by omega))]
          · rw [if_neg (nI_ge (by omega) (by omega)), o_bs, if_neg (nI_ge (by omega) (by omega)), b3 k (by omega)]
theorem SE.w20 {σ τ : ST} (h : SE σ τ) (x : Int32) : SE (uI σ 20 20 x) (uI τ 20 20 x) := by
  obtain ⟨h1, h2, h3, h4⟩ := h
  refine ⟨fun o a b c d e f g i j l => ?_, fun k a b => ?_, h3, h4⟩
  · show va_up τ.1 20 _ o = va_up σ.1 20 _ o
    rw [va_up_ne _ _ c, va_up_ne _ _ c]
    exact h1 o a b c d e f g i j l
  · rw [uI_s, uI_s]
    by_cases q : k = 20
    · rw [q, va_up_self, va_up_self]
    · rw [va_up_ne _ _ q, va_up_ne _ _ q, h2 k a b]
theorem sp_way {t : Nat} {σ : ST} (h : Inv t σ) (w b0 c0 : Int32) : SP14 (Inv (t + 1)) σ w b0 c0 := by
  have hI := h
  obtain ⟨z, cc, kd, on, ot, tn, nb, g0, n0, g1, n1, cr, m, v, tu, hc, sg, -⟩ := inv_all h
  obtain ⟨l1, l2⟩ := lacks_V v
  obtain ⟨b1, b2⟩ := both_V tu
  have in1 := in_M w (lo := 0) (hi := 1) 0 1 (by decide) (by decide)
  have in2 := in_M w (lo := 10) (hi := 14) 10 14 (by decide) (by decide)
  -- where the number names something, both go on alike
  have go : wOK w → f_X10_way w σ = f_X10_way_B34 w σ → (∀ τ : ST, f_X11_way w τ = f_X11_way_B27 w τ) → SP14 (Inv (t + 1)) σ w b0 c0 := by
    intro hw eX eM
    by_cases q : z = 0
    · rw [if_pos q] at l1 l2
      exact ⟨-103, σ, by rw [eX, f_X10_way_B34, l2]; rfl, σ, by rw [eM, f_X11_way_B27, l1]; rfl, inv_mono t σ hI⟩
    · rw [if_neg q] at l1 l2
      by_cases q2 : n0 = 0 ∨ n1 = 0
      · rw [if_pos q2] at b1 b2
        exact ⟨-103, σ, by rw [eX, f_X10_way_B34, l2, o_bs, if_pos rfl, b2]; rfl, σ, by rw [eM, f_X11_way_B27, l1, o_bs, if_pos rfl, b1]; rfl, inv_mono t σ hI⟩
      · rw [if_neg q2] at b1 b2
        obtain ⟨pn, z', cc', kd', on', ot', rd, wy, h1, h2, h3, h4, h5, h6⟩ := h
        obtain ⟨w1, w2, w3⟩ := h5
        by_cases q3 : wy = 16
        · refine ⟨-103, σ, ?_, σ, ?_, inv_mono t σ hI⟩
          · rw [eX, f_X10_way_B34, l2, o_bs, if_pos rfl, b2, o_bs, if_pos rfl, w2, q3, if_neg (by decide)]
          · rw [eM, f_X11_way_B27, l1, o_bs, if_pos rfl, b1, o_bs, if_neg (by decide), w3, q3, if_pos (by decide)]
        · obtain ⟨σa, hσa⟩ : ∃ σa, σa = uI σ 0 7 (nI (wy + 1)) := ⟨_, rfl⟩
          have va : VW σa z cc kd on ot tn nb := by rw [hσa]; exact v
          have ta : TU σa g0 n0 g1 n1 := by rw [hσa]; exact tu
          have ca : CR σa z cc cr := by rw [hσa]; exact hc
          obtain ⟨τ, k1, k2⟩ := way_XB hw (find_X va ta ca)
          have vt := k1.vw va
          have tt := k1.tu ta
          have l1' := (lacks_V vt).1
          have b1' := (both_V tt).1
          rw [if_neg q] at l1'
          rw [if_neg q2] at b1'
          have e20 : τ.1 20 20 = nI wy := by
            rw [k1.e.2.1 20 (by decide), hσa]
            exact w3
          obtain ⟨τa, hτa⟩ : ∃ τa, τa = uI τ 20 20 (nI (wy + 1)) := ⟨_, rfl⟩
          have vb : VW τa z cc kd on ot tn nb := by rw [hτa]; exact vt
          have tb : TU τa g0 n0 g1 n1 := by rw [hτa]; exact tt
          have cb : CR τa z cc cr := by rw [hτa]; exact k1.cr ca
          obtain ⟨τb, j1, j2⟩ := wayOf_M vb tb cb (fun x => q2 (Or.inl x)) hw 6 0 fuel τa (by decide) (by rw [fuel_eq]; omega) (SM.rf τa)
          have hIb : Inv (t + 1) (uI σa 20 20 (nI (wy + 1))) := by
            rw [hσa]
            exact ⟨pn, z', cc', kd', on', ot', rd, wy + 1, h1, h2, h3, ⟨by omega, h4.2⟩, ⟨by omega, rfl, rfl⟩, h6⟩
          refine ⟨wyA (wv kd on ot tn nb n0 z (enc g1 n1) g0 cr 6 0) w, τ, ?_, τb, ?_, j1.inv (by rw [hτa]; exact (k1.w20 _).inv hIb)⟩
          · rw [eX, f_X10_way_B34, l2, o_bs, if_pos rfl, b2, o_bs, if_pos rfl, w2, if_pos (show nI wy < 16 from nI_lt (a := wy) (b := 16) (by omega) (by decide)), nI_1, o_bs, ← hσa]
            exact k2
          · rw [eM, f_X11_way_B27, l1', o_bs, if_pos rfl, b1', o_bs, if_neg (by decide), e20, if_neg (show ¬ nI wy = 16 from fun x => q3 ((nI_eq (b := 16) (by omega) (by decide)).mp x)), nI_1, o_bs, ← hτa, f_X11_wayOf, show (0 : Int32) = nI 0 from rfl, j2, o_b2s]
  by_cases q1 : 0 ≤ w.toInt ∧ w.toInt ≤ 1
  · rw [if_pos q1] at in1
    have hw : w = 0 ∨ w = 1 := by
      rcases in0_M (x := w) (hi := 1) (n := 2) (by decide) (by decide) with ⟨j, x1, x2, x3⟩ | ⟨x1, x3⟩
      · rcases (show j = 0 ∨ j = 1 by omega) with rfl | rfl
        · exact Or.inl x2
        · exact Or.inr x2
      · rw [in1] at x3; exact absurd x3 (by decide)
    refine go (hw.elim Or.inl (fun x => Or.inr (Or.inl x))) ?_ (fun τ => by rw [f_X11_way, in1, o_bs, if_neg (by decide)])
    rw [f_X10_way, o_bs, f_X10_way_B17]
    rcases hw with x | x
    · rw [if_pos x]
    · rw [if_neg (by rw [x]; decide), if_pos x]
  · rw [if_neg q1] at in1
    have n0w : ¬ w = 0 := fun x => q1 (by rw [x]; decide)
    have n1w : ¬ w = 1 := fun x => q1 (by rw [x]; decide)
    have i1 : (w < 10) ↔ w.toInt < 10 := by rw [Int32.lt_iff_toInt_lt]; exact Iff.rfl
    have i2 : (15 ≤ w) ↔ 15 ≤ w.toInt := by rw [Int32.le_iff_toInt_le]; exact Iff.rfl
    by_cases q2 : 10 ≤ w.toInt ∧ w.toInt ≤ 14
    · rw [if_pos q2] at in2
      obtain ⟨k, k1, k2, k3, k4⟩ := b10 (b := w) (by omega)
      refine go (Or.inr (Or.inr ⟨k, by omega, k2, k3⟩)) ?_ (fun τ => by rw [f_X11_way, in1, o_bs, if_pos rfl, in2, o_bs, if_neg (by decide)])
      rw [f_X10_way, o_bs, f_X10_way_B17, if_neg n0w, if_neg n1w, if_neg (show ¬ w < 10 from fun x => by have := i1.mp x; omega), if_neg (show ¬ 15 ≤ w from fun x => by have := i2.mp x; omega), if_neg (by decide)]
    · rw [if_neg q2] at in2
      refine ⟨-102, σ, ?_, σ, by rw [f_X11_way, in1, o_bs, if_pos rfl, in2, o_bs, if_pos rfl], inv_mono t σ hI⟩
      rw [f_X10_way, o_bs, f_X10_way_B17, if_neg n0w, if_neg n1w]
      by_cases x1 : w < 10
      · rw [if_pos x1, if_pos rfl]
      · rw [if_neg x1, if_pos (i2.mpr (by have := mt i1.mpr x1; omega)), if_pos rfl]
