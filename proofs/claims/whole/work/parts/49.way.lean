/-! WAY: the first of the shortest, both searches -/
def pcs (i : Nat) (p : Nat → Nat) : Nat → Nat
  | 0 => i
  | k + 1 => p k
/-- the first of them that is one -/
def fsO {α : Type} (f : Nat → Option α) : Nat → Nat → Option α
  | 0, _ => none
  | r + 1, i => match f i with
    | some x => some x
    | none => fsO f r (i + 1)
theorem fsO_s {α : Type} {f : Nat → Option α} {r i : Nat} {x : α} (h : f i = some x) : fsO f (r + 1) i = some x := by rw [fsO, h]
theorem fsO_n {α : Type} {f : Nat → Option α} {r i : Nat} (h : f i = none) : fsO f (r + 1) i = fsO f r (i + 1) := by rw [fsO, h]
theorem fsO_none {α : Type} {f : Nat → Option α} : ∀ r i, (∀ j, f j = none) → fsO f r i = none
  | 0, _, _ => rfl
  | r + 1, i, h => by rw [fsO_n (h i), fsO_none r (i + 1) h]
abbrev WP : Type := (Nat → Nat) × Nat
/-- ways of just so many streets: the first by numbers, and where it ends -/
def sk (kd on ot tn : Nat → Nat) (b n z : Nat) (e1 : Int64) : Nat → (Nat → Nat) → Nat → Option WP
  | 0, g, cr => if enc g n = e1 then some (fun _ => 0, cr) else none
  | d + 1, g, cr => fsO (fun i => if PS kd on ot b g n cr i then (sk kd on ot tn b n z e1 d (tr (kd i) (tn i) g n) (on i + ot i - cr)).map (fun q => (pcs i q.1, q.2)) else none) z 0
def skF (kd on ot tn : Nat → Nat) (b n z : Nat) (e1 : Int64) (d : Nat) (g : Nat → Nat) (cr i : Nat) : Option WP := if PS kd on ot b g n cr i then (sk kd on ot tn b n z e1 d (tr (kd i) (tn i) g n) (on i + ot i - cr)).map (fun q => (pcs i q.1, q.2)) else none
theorem sk_s (kd on ot tn : Nat → Nat) (b n z : Nat) (e1 : Int64) (d : Nat) (g : Nat → Nat) (cr : Nat) : sk kd on ot tn b n z e1 (d + 1) g cr = fsO (skF kd on ot tn b n z e1 d g cr) z 0 := rfl
theorem sk_none {kd on ot tn : Nat → Nat} {b n n1 z : Nat} {g1 : Nat → Nat} (h1 : TN g1 n1) (hn : n ≠ n1) : ∀ d g cr, TN g n → sk kd on ot tn b n z (enc g1 n1) d g cr = none
  | 0, g, cr, hg => by rw [sk, if_neg (fun w => hn ((enc_eq hg h1).mp w).1)]
  | d + 1, g, cr, hg => by
    rw [sk_s]
    refine fsO_none z 0 (fun i => ?_)
    unfold skF
    split
    · rw [sk_none h1 hn d _ _ (tr_TN hg)]; rfl
    · rfl
/-! the reference -/
theorem isThere_L {τ : ST} {j n : Nat} {g g1 : Nat → Nat} (hj : j < 6) (hn : n ≤ 8) (hg : ∀ k, k < n → g k < 12) (hg' : ∀ k, k < n → g1 k < 12) (hr : ∀ k, k < n → τ.1 29 (8 * j + k) = nI (g k)) (hr' : RW τ 26 g1 n) (h13 : τ.1 20 13 = nI n) : ∀ m k fu, k + m = n → m < fu → (∀ u, u < k → g u = g1 u) → ∃ v, f_X11_isThere_L19 τ fu (nI j) 1 (nI k) = some v ∧ ((v = 1 ∧ ∀ u, u < n → g u = g1 u) ∨ (v = 0 ∧ ¬ ∀ u, u < n → g u = g1 u)) := by
  intro m
  induction m with
  | zero =>
    intro k fu h1 h2 h3
    obtain ⟨f, rfl⟩ : ∃ f, fu = f + 1 := ⟨fu - 1, by omega⟩
    refine ⟨1, ?_, Or.inl ⟨rfl, fun u hu => h3 u (by omega)⟩⟩
    rw [f_X11_isThere_L19, h13, if_pos (nI_le (by omega) (by omega)), if_pos (by decide)]
  | succ m ih =>
    intro k fu h1 h2 h3
    obtain ⟨f, rfl⟩ : ∃ f, fu = f + 1 := ⟨fu - 1, by omega⟩
    have l1 := hg k (by omega)
    have l2 := hg' k (by omega)
    have step : f_X11_isThere_L19 τ (f + 1) (nI j) 1 (nI k) = f_X11_isThere_L19 τ f (nI j) (if g k = g1 k then 1 else 0) (nI (k + 1)) := by
      rw [f_X11_isThere_L19, h13, if_neg (nI_ge (by omega) (by omega)), if_neg (by decide), mul8, nI_add, if_pos (by rw [q_in (by omega)]; omega), if_pos (by rw [q_in (by omega)]; omega), q_cl (by omega), q_cl (by omega), hr k (by omega), hr' k (by omega), o_bs, o_bs, nI_1, q_if (nI_eq (by omega) (by omega))]
    rw [step]
    by_cases q : g k = g1 k
    · rw [if_pos q]
      exact ih (k + 1) f (by omega) (by omega) (fun u hu => by
        by_cases q2 : u = k
        · subst q2; exact q
        · exact h3 u (by omega))
    · rw [if_neg q]
      obtain ⟨f', rfl⟩ : ∃ f', f = f' + 1 := ⟨f - 1, by omega⟩
      refine ⟨0, ?_, Or.inr ⟨rfl, fun z => q (z k (by omega))⟩⟩
      rw [f_X11_isThere_L19, h13]
      by_cases q3 : nI n ≤ nI (k + 1)
      · rw [if_pos q3, if_pos (by decide)]
      · rw [if_neg q3, if_pos rfl, if_pos (by decide)]
theorem isThere_M {τ : ST} {j n n1 cr : Nat} {g g0 g1 : Nat → Nat} (tu : TU τ g0 n g1 n1) (hj : j < 6) (hg : TN g n) (l : LV τ j n g cr) : f_X11_isThere τ (nI j) = some (if enc g n = enc g1 n1 then 1 else 0) := by
  obtain ⟨t0, t1, r0, r1, e0, e1, l0, l1⟩ := tu
  have h8 := hg.1
  have h8' := t1.1
  rw [f_X11_isThere, o_bs, f_X11_isThere_B16, e0, e1, q_if (enc_eq hg t1), q_if (nI_eq (show n < 2 ^ 31 by omega) (show n1 < 2 ^ 31 by omega))]
  by_cases q : n = n1
  · subst q
    rw [if_pos rfl]
    obtain ⟨v, e, w⟩ := isThere_L (g1 := g1) hj h8 hg.2 t1.2 l.1 r1 e0 n 0 fuel (by omega) (by rw [fuel_eq]; omega) (fun k hk => absurd hk (Nat.not_lt_zero k))
    rw [show (0 : Int32) = nI 0 from rfl, e]
    rcases w with ⟨a, b⟩ | ⟨a, b⟩
    · rw [a, if_pos ⟨rfl, b⟩]
    · rw [a, if_neg (fun w => b w.2)]; rfl
  · rw [if_neg q, if_neg (fun w => q w.1)]
    obtain ⟨f, hf⟩ := fuel_s
    rw [hf, f_X11_isThere_L19, e0]
    by_cases q3 : nI n ≤ 0
    · rw [if_pos q3, if_pos (by decide)]
    · rw [if_neg q3, if_pos rfl, if_pos (by decide)]
theorem way_MD {σ : ST} {z c b n n1 : Nat} {kd on ot tn g0 g1 : Nat → Nat} (v : VW σ z c kd on ot tn b) (tu : TU σ g0 n g1 n1) (hn : n ≠ 0) {many : Nat} (hm : many ≤ 5) : ∀ d j g cr (τ : ST), j + d = many → SM σ τ → TN g n → cr < 5 → LV τ j n g cr → τ.1 31 j = -1 → ∃ k τ', k ≤ cst d ∧ FR j τ τ' ∧ ((sk kd on ot tn b n z (enc g1 n1) d g cr = none ∧ ∀ fu, f_X11_layWay_L13 (fu + k) (nI many) (nI j) τ = f_X11_layWay_L13 fu (nI many) (nI j + (-1)) τ') ∨ ∃ p e, sk kd on ot tn b n z (enc g1 n1) d g cr = some (p, e) ∧ (∀ fu, f_X11_layWay_L13 (fu + k) (nI many) (nI j) τ = some (1, τ')) ∧ (∀ u, u < d → τ'.1 31 (j + u) = nI (p u)) ∧ τ'.1 30 many = nI e) := by
  have hz := v.z8
  intro d
  induction d with
  | zero =>
    intro j g cr τ h1 h2 h3 h4 h5 h6
    have : j = many := by omega
    subst this
    have it := isThere_M (h2.tu tu) (show j < 6 by omega) h3 h5
    refine ⟨1, τ, Nat.le_refl 1, ⟨SM.rf τ, fun _ _ => rfl, fun _ _ => rfl, fun _ _ => rfl⟩, ?_⟩
    rw [sk]
    by_cases q : enc g n = enc g1 n1
    · rw [if_pos q] at it ⊢
      refine Or.inr ⟨fun _ => 0, cr, rfl, fun fu => ?_, fun u hu => absurd hu (Nat.not_lt_zero u), h5.2⟩
      rw [f_X11_layWay_L13, if_neg (nI_pos (by omega)), if_pos rfl, it, o_bs, if_neg (by decide)]
    · rw [if_neg q] at it ⊢
      refine Or.inl ⟨rfl, fun fu => ?_⟩
      rw [f_X11_layWay_L13, if_neg (nI_pos (by omega)), if_pos rfl, it, o_bs, if_pos rfl, o_bs]
  | succ d ih =>
    intro j g cr τ h1 h2 h3 h4 h5 h6
    have h8n := h3.1
    have hj : j < 5 := by omega
    have nd : ∀ f (υ : ST), f_X11_layWay_L13 (f + 1) (nI many) (nI j) υ = ndE (f_X11_layWay_L13 f (nI many)) (nI j) υ := fun f υ => by
      rw [f_X11_layWay_L13, if_neg (nI_pos (by omega)), if_neg (fun w => absurd ((nI_eq (by omega) (by omega)).mp w) (by omega))]
      rfl
    rw [sk_s]
    have inner : ∀ r i (τ : ST), i + r = z → SM σ τ → LV τ j n g cr → τ.1 31 j + 1 = nI i → ∃ k τ', k ≤ r * (cst d + 1) + 1 ∧ FR j τ τ' ∧ ((fsO (skF kd on ot tn b n z (enc g1 n1) d g cr) r i = none ∧ ∀ fu, f_X11_layWay_L13 (fu + k) (nI many) (nI j) τ = f_X11_layWay_L13 fu (nI many) (nI j + (-1)) τ') ∨ ∃ p e, fsO (skF kd on ot tn b n z (enc g1 n1) d g cr) r i = some (p, e) ∧ (∀ fu, f_X11_layWay_L13 (fu + k) (nI many) (nI j) τ = some (1, τ')) ∧ (∀ u, u < d + 1 → τ'.1 31 (j + u) = nI (p u)) ∧ τ'.1 30 many = nI e) := by
      intro r
      induction r with
      | zero =>
        intro i τ k1 k2 k3 k4
        have : i = z := by omega
        subst this
        obtain ⟨τ', a1, a2, a3, a4⟩ := nd_end (k2.vw v) (show j < 6 by omega) k4
        refine ⟨1, τ', by omega, a1, Or.inl ⟨rfl, fun fu => ?_⟩⟩
        rw [nd, a4]
      | succ r ih2 =>
        intro i τ k1 k2 k3 k4
        have v' := k2.vw v
        have hi : i < z := by omega
        have hw := v'.row hi
        have e' : (r + 1) * (cst d + 1) = r * (cst d + 1) + (cst d + 1) := Nat.succ_mul _ _
        obtain ⟨τ1, b1, b2, b3, b4, b5⟩ := nd_in v' (k2.tu tu) hj hi hn h3 h4 k3 k4
        have l1 := b1.lv h8n k3
        have t1 : τ1.1 31 j + 1 = nI (i + 1) := by rw [b2, nI_1]
        by_cases q : PS kd on ot b g n cr i
        · have hq := q.1
          have ef : skF kd on ot tn b n z (enc g1 n1) d g cr i = (sk kd on ot tn b n z (enc g1 n1) d (tr (kd i) (tn i) g n) (on i + ot i - cr)).map (fun q => (pcs i q.1, q.2)) := by rw [skF, if_pos q]
          obtain ⟨c1, c2, c3⟩ := b5.1 q
          obtain ⟨kA, τ2, d1, d2, d3⟩ := ih (j + 1) (tr (kd i) (tn i) g n) (on i + ot i - cr) τ1 (by omega) (k2.tr b1.1) (tr_TN h3) (by omega) c1 c2
          obtain ⟨f1, f2⟩ := d2.up
          rcases d3 with ⟨x1, x2⟩ | ⟨p, e, x1, x2, x3, x4⟩
          · rw [x1] at ef
            obtain ⟨kB, τ3, y1, y2, y3⟩ := ih2 (i + 1) τ2 (by omega) ((k2.tr b1.1).tr f1.1) (f1.lv h8n l1) (by rw [f2]; exact t1)
            refine ⟨kB + kA + 1, τ3, by omega, (b1.tr f1).tr y2, ?_⟩
            rw [fsO_n ef]
            have st : ∀ fu, f_X11_layWay_L13 (fu + (kB + kA + 1)) (nI many) (nI j) τ = f_X11_layWay_L13 (fu + kB) (nI many) (nI j) τ2 := fun fu => by
              rw [show fu + (kB + kA + 1) = (fu + kB + kA) + 1 by omega, nd, c3, x2, pk_m1]
            rcases y3 with ⟨w1, w2⟩ | ⟨p, e, w1, w2, w3, w4⟩
            · exact Or.inl ⟨w1, fun fu => by rw [st, w2]⟩
            · exact Or.inr ⟨p, e, w1, fun fu => by rw [st, w2], w3, w4⟩
          · rw [x1] at ef
            refine ⟨kA + 1, τ2, by omega, b1.tr f1, ?_⟩
            rw [fsO_s (x := (pcs i p, e)) ef]
            refine Or.inr ⟨pcs i p, e, rfl, fun fu => ?_, fun u hu => ?_, x4⟩
            · rw [show fu + (kA + 1) = (fu + kA) + 1 by omega, nd, c3, x2]
            · cases u with
              | zero => show τ2.1 31 j = nI i; rw [f2, b2]
              | succ u => rw [show j + (u + 1) = j + 1 + u by omega]; exact x3 u (by omega)
        · have ef : skF kd on ot tn b n z (enc g1 n1) d g cr i = none := by rw [skF, if_neg q]
          obtain ⟨kB, τ3, y1, y2, y3⟩ := ih2 (i + 1) τ1 (by omega) (k2.tr b1.1) l1 t1
          refine ⟨kB + 1, τ3, by omega, b1.tr y2, ?_⟩
          rw [fsO_n ef]
          have st : ∀ fu, f_X11_layWay_L13 (fu + (kB + 1)) (nI many) (nI j) τ = f_X11_layWay_L13 (fu + kB) (nI many) (nI j) τ1 := fun fu => by
            rw [show fu + (kB + 1) = (fu + kB) + 1 by omega, nd, b5.2 q]
          rcases y3 with ⟨w1, w2⟩ | ⟨p, e, w1, w2, w3, w4⟩
          · exact Or.inl ⟨w1, fun fu => by rw [st, w2]⟩
          · exact Or.inr ⟨p, e, w1, fun fu => by rw [st, w2], w3, w4⟩
    have e10 : z * (cst d + 1) ≤ 8 * (cst d + 1) := Nat.mul_le_mul_right _ hz
    obtain ⟨k, τ', w1, w2, w3⟩ := inner z 0 τ (by omega) h2 h5 (by rw [h6]; rfl)
    exact ⟨k, τ', by rw [cst]; omega, w2, w3⟩
theorem lay_M {σ : ST} {z c b n n1 cr many : Nat} {kd on ot tn g0 g1 : Nat → Nat} (v : VW σ z c kd on ot tn b) (tu : TU σ g0 n g1 n1) (hc : CR σ z c cr) (hn : n ≠ 0) (hm : many ≤ 5) : ∃ σ', SM σ σ' ∧ ((sk kd on ot tn b n z (enc g1 n1) many g0 cr = none ∧ f_X11_layWay (nI many) σ = some (0, σ')) ∨ ∃ p e, sk kd on ot tn b n z (enc g1 n1) many g0 cr = some (p, e) ∧ f_X11_layWay (nI many) σ = some (1, σ') ∧ (∀ u, u < many → σ'.1 31 u = nI (p u)) ∧ σ'.1 30 many = nI e) := by
  obtain ⟨t0, t1, r0, r1, e0, e1, l0, l1⟩ := tu
  have tu : TU σ g0 n g1 n1 := ⟨t0, t1, r0, r1, e0, e1, l0, l1⟩
  obtain ⟨σ1, a1, a2, a3, a4, a5⟩ := begin_M t0.1 r0 hc.2.2.2
  obtain ⟨σ2, hσ2⟩ : ∃ σ2, σ2 = uI σ1 31 0 (-1) := ⟨_, rfl⟩
  have s2 : SM σ1 σ2 := by rw [hσ2]; exact SM.uA _ 31 _ (by decide)
  have l2 : LV σ2 0 n g0 cr := by rw [hσ2]; exact a5
  have h31 : σ2.1 31 0 = -1 := by rw [hσ2, uI_s, va_up_self]
  obtain ⟨k, τ, k1, k2, k3⟩ := way_MD v tu hn hm many 0 g0 cr σ2 (by omega) (a1.tr s2) t0 hc.1 l2 h31
  refine ⟨τ, (a1.tr s2).tr k2.1, ?_⟩
  have hk := cst_le many (by omega)
  have hf : fuel = (fuel - k - 1 + 1) + k := by rw [fuel_eq]; omega
  rw [f_X11_layWay, a4, o_bs, o_bs, ← hσ2, hf]
  rcases k3 with ⟨w1, w2⟩ | ⟨p, e, w1, w2, w3, w4⟩
  · refine Or.inl ⟨w1, ?_⟩
    have w2 := w2 (fuel - k - 1 + 1)
    refine Eq.trans w2 ?_
    rw [f_X11_layWay_L13, if_pos (by decide)]
  · exact Or.inr ⟨p, e, w1, w2 _, fun u hu => by have := w3 u hu; rwa [Nat.zero_add] at this, w4⟩
/-- the way: how many, which, where it ends -/
def wv (kd on ot tn : Nat → Nat) (b n z : Nat) (e1 : Int64) (g : Nat → Nat) (cr : Nat) : Nat → Nat → Option (Nat × WP)
  | 0, _ => none
  | r + 1, m => match sk kd on ot tn b n z e1 m g cr with
    | some q => some (m, q)
    | none => wv kd on ot tn b n z e1 g cr r (m + 1)
theorem wv_s {kd on ot tn : Nat → Nat} {b n z : Nat} {e1 : Int64} {g : Nat → Nat} {cr r m : Nat} {q : WP} (h : sk kd on ot tn b n z e1 m g cr = some q) : wv kd on ot tn b n z e1 g cr (r + 1) m = some (m, q) := by rw [wv, h]
theorem wv_n {kd on ot tn : Nat → Nat} {b n z : Nat} {e1 : Int64} {g : Nat → Nat} {cr r m : Nat} (h : sk kd on ot tn b n z e1 m g cr = none) : wv kd on ot tn b n z e1 g cr (r + 1) m = wv kd on ot tn b n z e1 g cr r (m + 1) := by rw [wv, h]
def wyA (o : Option (Nat × WP)) (w : Int32) : Int32 := match o with
  | none => -1
  | some (m, p, e) => if w = 0 then nI m else if w = 1 then nI e else if nI m ≤ w - 10 then -1 else nI (p (w - 10).toNatClampNeg)
def wOK (w : Int32) : Prop := w = 0 ∨ w = 1 ∨ ∃ k, k < 5 ∧ w = nI (10 + k) ∧ w - 10 = nI k
theorem wayOf_M {σ : ST} {z c b n n1 cr : Nat} {kd on ot tn g0 g1 : Nat → Nat} (v : VW σ z c kd on ot tn b) (tu : TU σ g0 n g1 n1) (hc : CR σ z c cr) (hn : n ≠ 0) {w : Int32} (hw : wOK w) : ∀ r m fu (τ : ST), m + r = 6 → r < fu → SM σ τ → ∃ σ', SM σ σ' ∧ f_X11_wayOf_L2 fu w (nI m) τ = some (wyA (wv kd on ot tn b n z (enc g1 n1) g0 cr r m) w, σ') := by
  intro r
  induction r with
  | zero =>
    intro m fu τ h1 h2 h3
    obtain ⟨f, rfl⟩ : ∃ f, fu = f + 1 := ⟨fu - 1, by omega⟩
    exact ⟨τ, h3, by rw [f_X11_wayOf_L2, show m = 6 by omega, if_pos (by decide)]; rfl⟩
  | succ r ih =>
    intro m fu τ h1 h2 h3
    obtain ⟨f, rfl⟩ : ∃ f, fu = f + 1 := ⟨fu - 1, by omega⟩
    obtain ⟨τ1, a1, a2⟩ := lay_M (many := m) (h3.vw v) (h3.tu tu) (h3.cr hc) hn (by omega)
    rw [f_X11_wayOf_L2, if_neg (show ¬ (6 : Int32) ≤ nI m from nI_ge (a := m) (b := 6) (by omega) (by decide))]
    rcases a2 with ⟨b1, b2⟩ | ⟨p, e, b1, b2, b3, b4⟩
    · rw [b2, o_b2s, if_pos rfl, o_bs, nI_1, wv_n b1]
      exact ih (m + 1) f τ1 (by omega) (by omega) (h3.tr a1)
    · refine ⟨τ1, h3.tr a1, ?_⟩
      have i6 : inB (nI m) 6 := by rw [q_in (by omega)]; omega
      rw [b2, o_b2s, if_neg (by decide), wv_s b1, f_X11_wayOf_B16, if_pos i6, q_cl (by omega), b4, wyA]
      by_cases q0 : w = 0
      · rw [if_pos q0, if_pos q0]
      · rw [if_neg q0, if_neg q0]
        by_cases q1 : w = 1
        · rw [if_pos q1, if_pos q1]
        · rw [if_neg q1, if_neg q1]
          rcases hw with q | q | ⟨k, k1, k2, k3⟩
          · exact absurd q q0
          · exact absurd q q1
          · rw [k3, if_pos (show inB (nI k) 6 by rw [q_in (by omega)]; omega), q_cl (by omega), q_if (nI_leI (by omega) (by omega))]
            by_cases q2 : m ≤ k
            · rw [if_pos q2, if_pos (nI_le q2 (by omega))]
            · rw [if_neg q2, if_neg (nI_ge (by omega) (by omega)), b3 k (by omega)]
