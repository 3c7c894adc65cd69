/-! told(), sing(), tune() -/
theorem note_any {g : Nat → Nat} {n : Nat} (h : TN g n) (x : Int32) : (∃ k, k < n ∧ x = nI k ∧ f_X8_note (enc g n) x = some (nI (g k))) ∨ ((x < 0 ∨ nI n ≤ x) ∧ f_X8_note (enc g n) x = some (-1)) := by
  have h8 := h.1
  rcases pk_ix x (n := n) (by omega) with q | q | ⟨j, h1, rfl⟩
  · exact Or.inr ⟨Or.inl q, by rw [f_X8_note, if_pos q]⟩
  · by_cases q0 : x < 0
    · exact Or.inr ⟨Or.inl q0, by rw [f_X8_note, if_pos q0]⟩
    · obtain ⟨j, j1, rfl⟩ := nI_of q0
      have : n ≤ j := (nI_leI (by omega) j1).mp q
      exact Or.inr ⟨Or.inr q, by rw [note_enc h j1, nt_out (by omega)]⟩
  · exact Or.inl ⟨j, h1, rfl, by rw [note_enc h (by omega), nt_in h1]⟩
theorem which_split (x : Int32) : (∃ w, w < 2 ∧ x = nI w ∧ f_X11_in x.toInt64 0 1 = some 1) ∨ (f_X11_in x.toInt64 0 1 = some 0 ∧ ¬ x = 0 ∧ ¬ x = 1) := by
  rcases in0_M (x := x) (hi := 1) (n := 2) (by decide) (by decide) with ⟨j, q1, q2, q3⟩ | ⟨q1, q3⟩
  · exact Or.inl ⟨j, q1, q2, q3⟩
  · refine Or.inr ⟨q3, fun e => ?_, fun e => ?_⟩
    · subst e; rcases q1 with q | q
      · exact absurd q (by decide)
      · exact absurd q (by decide)
    · subst e; rcases q1 with q | q
      · exact absurd q (by decide)
      · exact absurd q (by decide)
theorem tu_w {σ : ST} {g0 g1 : Nat → Nat} {n0 n1 : Nat} (h : TU σ g0 n0 g1 n1) {w : Nat} (hw : w < 2) : ∃ g n, TM σ w g n ∧ f_X3_tuneOf σ (nI w) = some (enc g n) := by
  obtain ⟨t0, t1, r0, r1, e0, e1, l0, l1⟩ := h
  rcases (show w = 0 ∨ w = 1 by omega) with rfl | rfl
  · exact ⟨g0, n0, ⟨t0, r0, e0⟩, by rw [f_X3_tuneOf, if_pos (by decide), l0]⟩
  · exact ⟨g1, n1, ⟨t1, r1, e1⟩, by rw [f_X3_tuneOf, if_neg (by decide), if_pos (by decide), l1]⟩
theorem isTune_M {σ : ST} {w : Nat} {g : Nat → Nat} {n : Nat} (hw : w < 2) (h : TM σ w g n) : f_X11_isTune σ (nI w) = some (if n = 0 then 0 else 1) := by
  have h8 := h.1.1
  rcases which_split (nI w) with ⟨w', a1, a2, a3⟩ | ⟨a1, a2, a3⟩
  · rw [f_X11_isTune, a3, o_bs, if_neg (by decide), many_M hw h, o_bs, q_if (many0 h8)]
    by_cases q : n = 0
    · rw [if_pos q, if_pos q]
    · rw [if_neg q, if_neg q]
  · rcases (show w = 0 ∨ w = 1 by omega) with rfl | rfl
    · exact absurd rfl a2
    · exact absurd rfl a3
def toldV (g : Nat → Nat) (n : Nat) (b : Int32) : Int32 := if b = 0 then nI n else if b = 1 then nI (tri g n) else if b = 2 then nI (keyS g n) else if b = 3 then nI (inK g n (keyS g n)) else if b = 4 then bts g n else if 10 ≤ b.toInt ∧ b.toInt ≤ 17 then nt g n (b.toInt - 10).toNat else -102
theorem b10 {b : Int32} (q : 10 ≤ b.toInt ∧ b.toInt ≤ 17) : ∃ k, k < 8 ∧ b = nI (10 + k) ∧ b - 10 = nI k ∧ (b.toInt - 10).toNat = k := by
  obtain ⟨j, j1, rfl⟩ : ∃ j : Nat, j ≤ 17 ∧ b = nI j := nI_of2 (M := 17) (by decide) (fun z => by have := neg_toInt z; omega) (Int32.le_iff_toInt_le.mpr (by exact q.2))
  rw [nI_toInt (by omega)] at q ⊢
  refine ⟨j - 10, by omega, by rw [show 10 + (j - 10) = j by omega], pk_sub (b := 10) (by omega), by omega⟩
theorem told_X {σ : ST} {a b : Int32} {g : Nat → Nat} {n : Nat} (h : TN g n) (hn : n ≠ 0) (e : f_X3_tuneOf σ a = some (enc g n)) : f_X10_told σ a b = some (toldV g n b) := by
  rw [f_X10_told, e, o_bs, if_neg (fun z => hn ((enc_ne0 h).mp z)), toldV]
  by_cases c0 : b = 0
  · rw [if_pos c0, if_pos c0, length_enc h, o_bs]
  rw [if_neg c0, if_neg c0]
  by_cases c1 : b = 1
  · rw [if_pos c1, if_pos c1, tri_X h, o_bs]
  rw [if_neg c1, if_neg c1]
  by_cases c2 : b = 2
  · rw [if_pos c2, if_pos c2, key_X h, o_bs]
  rw [if_neg c2, if_neg c2]
  by_cases c3 : b = 3
  · rw [if_pos c3, if_pos c3, key_X h, o_bs, inKey_X h (keyS_lt g n), o_bs]
  rw [if_neg c3, if_neg c3]
  by_cases c4 : b = 4
  · rw [if_pos c4, if_pos c4, bits_X h, o_bs]
  rw [if_neg c4, if_neg c4]
  have i1 : (b < 10) ↔ b.toInt < 10 := by rw [Int32.lt_iff_toInt_lt]; exact Iff.rfl
  have i2 : (18 ≤ b) ↔ 18 ≤ b.toInt := by rw [Int32.le_iff_toInt_le]; exact Iff.rfl
  by_cases q : 10 ≤ b.toInt ∧ b.toInt ≤ 17
  · obtain ⟨k, k1, k2, k3, k4⟩ := b10 q
    rw [if_neg (fun z => by have := i1.mp z; omega), if_neg (fun z => by have := i2.mp z; omega), if_pos q, k3, k4, note_enc h (by omega), o_bs]
  · rw [if_neg q]
    by_cases q1 : b < 10
    · rw [if_pos q1]
    · rw [if_neg q1, if_pos (i2.mpr (by have := mt i1.mpr q1; omega))]
theorem tell_M {σ : ST} {w : Nat} {b : Int32} {g : Nat → Nat} {n : Nat} (hw : w < 2) (h : TM σ w g n) : f_X11_tellTune σ (nI w) b = some (toldV g n b) := by
  have h8 := h.1.1
  rw [f_X11_tellTune, in_M b 10 17 (by decide) (by decide), o_bs]
  by_cases q : 10 ≤ b.toInt ∧ b.toInt ≤ 17
  · obtain ⟨k, k1, k2, k3, k4⟩ := b10 q
    have ne : ∀ j : Nat, j < 5 → ¬ b = nI j := fun j hj e => by
      rw [e, nI_toInt (by omega)] at q; omega
    rw [if_pos q, if_neg (by decide), many_M hw h, o_bs, k3, toldV, if_neg (show ¬ b = 0 from ne 0 (by decide)), if_neg (show ¬ b = 1 from ne 1 (by decide)), if_neg (show ¬ b = 2 from ne 2 (by decide)), if_neg (show ¬ b = 3 from ne 3 (by decide)), if_neg (show ¬ b = 4 from ne 4 (by decide)), if_pos q, k4]
    by_cases q2 : k < n
    · rw [if_neg (nI_ge q2 (by omega)), noteAt_M hw h q2, o_bs, nt_in q2]
    · rw [if_pos (nI_le (by omega) (by omega)), nt_out q2]
  · rw [if_neg q, if_pos rfl, toldV]
    by_cases c0 : b = 0
    · rw [if_pos c0, if_pos c0, many_M hw h, o_bs]
    rw [if_neg c0, if_neg c0]
    by_cases c1 : b = 1
    · rw [if_pos c1, if_pos c1]
      rcases (show w = 0 ∨ w = 1 by omega) with rfl | rfl
      · rw [if_pos (by decide), f_X11_tellTune_B97_1, many_M hw h, o_bs, tri_M h.1 h.2.1, o_bs]
      · rw [if_neg (by decide), f_X11_tellTune_B97, many_M hw h, o_bs, tri_M h.1 h.2.1, o_bs]
    rw [if_neg c1, if_neg c1]
    by_cases c2 : b = 2
    · rw [if_pos c2, if_pos c2, key_M hw h, o_bs]
    rw [if_neg c2, if_neg c2]
    by_cases c3 : b = 3
    · rw [if_pos c3, if_pos c3, key_M hw h, o_bs, inKey_M hw h (keyS_lt g n), o_bs]
    rw [if_neg c3, if_neg c3]
    by_cases c4 : b = 4
    · rw [if_pos c4, if_pos c4, bits_M hw h, o_bs]
    rw [if_neg c4, if_neg c4, if_neg q]
theorem sp_told {t : Nat} {σ : ST} (h : Inv t σ) (a b c : Int32) : SP5 (Inv (t + 1)) σ a b c := by
  obtain ⟨z, cc, kd, on, ot, tn, nb, g0, n0, g1, n1, cr, m, v, tu, hc, sg, -⟩ := inv_all h
  rcases which_split a with ⟨w, w1, rfl, w3⟩ | ⟨a1, a2, a3⟩
  · obtain ⟨g, n, tm, e⟩ := tu_w tu w1
    by_cases q : n = 0
    · refine ⟨-101, ?_, ?_, inv_mono t σ h⟩
      · rw [f_X10_told, e, o_bs, if_pos ((enc_ne0 tm.1).mpr q)]
      · rw [f_X11_told, isTune_M w1 tm, if_pos q]; rfl
    · refine ⟨toldV g n b, told_X tm.1 q e, ?_, inv_mono t σ h⟩
      rw [f_X11_told, isTune_M w1 tm, if_neg q, o_bs, if_neg (by decide), tell_M w1 tm, o_bs]
  · refine ⟨-101, ?_, ?_, inv_mono t σ h⟩
    · rw [f_X10_told, f_X3_tuneOf, if_neg a2, if_neg a3]; rfl
    · rw [f_X11_told, f_X11_isTune, a1]; rfl
/-! sing() -/
theorem in_ok {k n : Nat} (hk : k < n) (h8 : n ≤ 8) : f_X11_in (nI k).toInt64 0 (nI n - 1).toInt64 = some 1 := by
  rw [in_M (nI k) 0 _ (by decide) (pred64 (n := n) (by omega)), if_pos (by rw [nI_toInt (by omega)]; omega)]
theorem in_no {b : Int32} {n : Nat} (k1 : b < 0 ∨ nI n ≤ b) (h8 : n ≤ 8) : f_X11_in b.toInt64 0 (nI n - 1).toInt64 = some 0 := by
  rw [in_M b 0 _ (by decide) (pred64 (n := n) (by omega)), if_neg (fun z => by
    rcases k1 with k1 | k1
    · have := neg_toInt k1; omega
    · have := big_toInt (by omega) k1; omega)]
theorem setTune_X {σ : ST} {w : Nat} (hw : w < 2) (x : Int64) : f_X3_setTune (nI w) x σ = some (uL σ 6 (5 + w) x) := by
  rcases (show w = 0 ∨ w = 1 by omega) with rfl | rfl
  · rw [f_X3_setTune, if_pos (by decide), o_bs]
  · rw [f_X3_setTune, if_neg (by decide), o_bs]
theorem tn_at {g : Nat → Nat} {n k x : Nat} (h : TN g n) (hx : x < 12) : TN (va_up g k x) n := ⟨h.1, fun j hj => by
  by_cases q : j = k
  · subst q; rw [va_up_self]; exact hx
  · rw [va_up_ne _ _ q]; exact h.2 j hj⟩
theorem row_at {f : Nat → Int32} {g : Nat → Nat} {n k x : Nat} (h : ∀ j, j < n → f j = nI (g j)) : ∀ j, j < n → va_up f k (nI x) j = nI (va_up g k x j) := fun j hj => by
  by_cases q : j = k
  · subst q; rw [va_up_self, va_up_self]
  · rw [va_up_ne _ _ q, va_up_ne _ _ q]; exact h j hj
theorem sp_sing {t : Nat} {σ : ST} (h : Inv t σ) (a b c : Int32) : SP12 (Inv (t + 1)) σ a b c := by
  have hI := h
  obtain ⟨pn, z, cc, kd, on, ot, rd, wy, h1, h2, h3, h4, h5, h6⟩ := h
  obtain ⟨n1, n2, n3, ⟨g0, m0, t0, r0, e0, l0⟩, ⟨g1, m1, t1, r1, e1, l1⟩, n6⟩ := h3
  have tu : TU σ g0 m0 g1 m1 := ⟨t0, t1, r0, r1, e0, e1, l0, l1⟩
  have bad : ∀ (τ : ST) (w n : Nat) (g : Nat → Nat) (k x : Nat), n ≤ 8 → k < n → TM τ w g n → w < 2 → (nI k : Int32) = b → x < 12 → nI x = c → f_X11_sing (nI w) b c τ = some (nI (g k), uI τ (25 + w) k (nI x)) := by
    intro τ w n g k x n8 hk tm hw hb hx hcx
    subst hb; subst hcx
    rcases isNote_both (nI x) with ⟨x', x1, x2, x3, x4⟩ | ⟨x3, x4⟩
    · rw [f_X11_sing, isTune_M hw tm, if_neg (show ¬ n = 0 by omega), o_bs, if_neg (by decide), many_M hw tm, o_bs, in_ok hk n8, o_bs, if_neg (by decide), x3, o_bs, if_neg (by decide), noteAt_M hw tm hk, o_bs, if_pos (show inB (nI k) 8 by rw [q_in (by omega)]; omega), if_pos (show inB (nI k) 8 by rw [q_in (by omega)]; omega), q_cl (by omega)]
      rcases (show w = 0 ∨ w = 1 by omega) with rfl | rfl
      · rw [if_pos (by decide), o_bs]
      · rw [if_neg (by decide), o_bs]
    · have := (isNote_both (nI x))
      rw [f_X10_isNote, if_neg (nI_pos (by omega)), if_neg (show ¬ (12 : Int32) ≤ nI x from nI_ge (a := x) (b := 12) hx (by decide))] at x4
      exact absurd x4 (by decide)
  rcases which_split a with ⟨w, w1, rfl, w3⟩ | ⟨a1, a2, a3⟩
  · obtain ⟨g, n, tm, e⟩ := tu_w tu w1
    have h8 := tm.1.1
    rcases note_any tm.1 b with ⟨k, k1, k2, k3⟩ | ⟨k1, k3⟩
    · rcases isNote_both c with ⟨x, x1, x2, x3, x4⟩ | ⟨x3, x4⟩
      · have gk := tm.1.2 k k1
        have eX : f_X10_sing (nI w) b c σ = some (nI (g k), uL σ 6 (5 + w) (enc (va_up g k x) n)) := by
          rw [f_X10_sing, e, o_bs, k3, o_bs, if_neg (by rw [q_m1 (by omega)]; exact not_false), x4, o_bs, if_neg (by decide), x2, k2, with_at tm.1 k1 x1, o_bs, setTune_X w1, o_bs]
        have eM := bad (uL σ 6 (5 + w) (enc (va_up g k x) n)) w n g k x h8 k1 tm w1 k2.symm x1 x2.symm
        refine ⟨nI (g k), _, eX, _, eM, ?_⟩
        rcases (show w = 0 ∨ w = 1 by omega) with rfl | rfl
        · exact ⟨pn, z, cc, kd, on, ot, rd, wy, h1, h2, ⟨n1, n2, n3, ⟨va_up g k x, n, tn_at tm.1 x1, row_at tm.2.1, tm.2.2, rfl⟩, ⟨g1, m1, t1, r1, e1, l1⟩, n6⟩, ⟨by omega, h4.2⟩, h5, h6⟩
        · exact ⟨pn, z, cc, kd, on, ot, rd, wy, h1, h2, ⟨n1, n2, n3, ⟨g0, m0, t0, r0, e0, l0⟩, ⟨va_up g k x, n, tn_at tm.1 x1, row_at tm.2.1, tm.2.2, rfl⟩, n6⟩, ⟨by omega, h4.2⟩, h5, h6⟩
      · refine ⟨-102, σ, ?_, σ, ?_, inv_mono t σ hI⟩
        · have gk := tm.1.2 k k1
          rw [f_X10_sing, e, o_bs, k3, o_bs, if_neg (by rw [q_m1 (by omega)]; exact not_false), x4]; rfl
        · rw [k2, f_X11_sing, isTune_M w1 tm, if_neg (show ¬ n = 0 by omega), o_bs, if_neg (by decide), many_M w1 tm, o_bs, in_ok k1 h8, o_bs, if_neg (by decide), x3]; rfl
    · refine ⟨-101, σ, ?_, σ, ?_, inv_mono t σ hI⟩
      · rw [f_X10_sing, e, o_bs, k3]; rfl
      · rw [f_X11_sing, isTune_M w1 tm]
        by_cases q : n = 0
        · rw [if_pos q]; rfl
        · rw [if_neg q, o_bs, if_neg (by decide), many_M w1 tm, o_bs, in_no k1 h8, o_bs, if_pos rfl]
  · refine ⟨-101, σ, ?_, σ, ?_, inv_mono t σ hI⟩
    · rw [f_X10_sing, f_X3_tuneOf, if_neg a2, if_neg a3, o_bs]
      rcases note_any (g := fun _ => 0) (n := 0) ⟨by decide, fun k hk => absurd hk (Nat.not_lt_zero k)⟩ b with ⟨k, k1, -, -⟩ | ⟨-, k3⟩
      · exact absurd k1 (Nat.not_lt_zero k)
      · rw [show (0 : Int64) = enc (fun _ => 0) 0 from rfl, k3]; rfl
    · rw [f_X11_sing, f_X11_isTune, a1]; rfl
