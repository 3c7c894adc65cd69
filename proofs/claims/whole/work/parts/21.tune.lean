/-! TUNES: a tune is g : Nat → Nat and its length n; the class holds it as lN (encN g n) -/
def encN (g : Nat → Nat) : Nat → Nat
  | 0 => 0
  | n + 1 => 2 ^ (4 * n) * (g n + 1) + encN g n
theorem encN_congr {g g' : Nat → Nat} : ∀ n, (∀ k, k < n → g k = g' k) → encN g n = encN g' n
  | 0, _ => rfl
  | n + 1, h => by rw [encN, encN, h n (by omega), encN_congr n (fun k hk => h k (by omega))]
theorem encN_lt {g : Nat → Nat} : ∀ n, (∀ k, k < n → g k < 15) → encN g n < 2 ^ (4 * n)
  | 0, _ => by show 0 < 1; decide
  | n + 1, h => by
    have h1 := encN_lt n (fun k hk => h k (by omega))
    have h2 := h n (by omega)
    rw [encN, show 4 * (n + 1) = 4 * n + 4 by omega, Nat.pow_add]
    have h3 : 2 ^ (4 * n) * (g n + 1) ≤ 2 ^ (4 * n) * 15 := Nat.mul_le_mul_left _ (by omega)
    omega
theorem encN_dig {g : Nat → Nat} : ∀ n, (∀ k, k < n → g k < 15) → ∀ k, encN g n / 2 ^ (4 * k) % 16 = if k < n then g k + 1 else 0
  | 0, _, k => by simp [encN]
  | n + 1, h, k => by
    have h1 := encN_lt n (fun k hk => h k (by omega))
    have h2 := h n (by omega)
    have ih := encN_dig n (fun k hk => h k (by omega)) k
    by_cases hk : k < n
    · rw [if_pos hk] at ih
      rw [if_pos (by omega), encN]
      have e : 2 ^ (4 * n) * (g n + 1) = 2 ^ (4 * k) * (16 * (2 ^ (4 * (n - k - 1)) * (g n + 1))) := by
        have e1 : 2 ^ (4 * n) = 2 ^ (4 * k) * (16 * 2 ^ (4 * (n - k - 1))) := by
          rw [show (16 : Nat) = 2 ^ 4 from rfl, ← Nat.pow_add, ← Nat.pow_add]
          congr 1; omega
        rw [e1, Nat.mul_assoc, Nat.mul_assoc]
      rw [e, Nat.mul_add_div (Nat.two_pow_pos _)]
      omega
    · by_cases hk2 : k = n
      · subst hk2
        rw [if_pos (by omega), encN, Nat.mul_add_div (Nat.two_pow_pos _), Nat.div_eq_of_lt h1]
        omega
      · rw [if_neg (by omega)]
        have hl := encN_lt (n + 1) h
        rw [Nat.div_eq_of_lt (Nat.lt_of_lt_of_le hl (Nat.pow_le_pow_right (by decide) (by omega)))]
theorem encN_small {g : Nat → Nat} {n : Nat} (h : ∀ k, k < n → g k < 15) (hn : n ≤ 8) : encN g n < 2 ^ 32 := Nat.lt_of_lt_of_le (encN_lt n h) (Nat.pow_le_pow_right (by decide) (by omega))
theorem encN_inj {g g' : Nat → Nat} {n n' : Nat} (h : ∀ k, k < n → g k < 15) (h' : ∀ k, k < n' → g' k < 15) (e : encN g n = encN g' n') : n = n' ∧ ∀ k, k < n → g k = g' k := by
  have key : ∀ k, (if k < n then g k + 1 else 0) = if k < n' then g' k + 1 else 0 := fun k => by rw [← encN_dig n h k, ← encN_dig n' h' k, e]
  have hn : n = n' := by
    rcases Nat.lt_trichotomy n n' with q | q | q
    · have := key n; rw [if_neg (Nat.lt_irrefl _), if_pos q] at this; omega
    · exact q
    · have := key n'; rw [if_pos q, if_neg (Nat.lt_irrefl _)] at this; omega
  refine ⟨hn, fun k hk => ?_⟩
  have := key k
  rw [if_pos hk, if_pos (by omega)] at this
  omega
/-- the tune as a long -/
def enc (g : Nat → Nat) (n : Nat) : Int64 := lN (encN g n)
/-- notes below 12, at most 8 of them -/
def TN (g : Nat → Nat) (n : Nat) : Prop := n ≤ 8 ∧ ∀ k, k < n → g k < 12
theorem TN.lt {g : Nat → Nat} {n : Nat} (h : TN g n) : ∀ k, k < n → g k < 15 := fun k hk => Nat.lt_trans (h.2 k hk) (by decide)
theorem enc_eq {g g' : Nat → Nat} {n n' : Nat} (h : TN g n) (h' : TN g' n') : (enc g n = enc g' n') ↔ (n = n' ∧ ∀ k, k < n → g k = g' k) := by
  constructor
  · intro e
    have e2 : encN g n = encN g' n' := (pk_lEQ (Nat.lt_trans (encN_small h.lt h.1) (by decide)) (Nat.lt_trans (encN_small h'.lt h'.1) (by decide))).mp e
    exact encN_inj h.lt h'.lt e2
  · rintro ⟨rfl, h2⟩
    rw [enc, enc, encN_congr n h2]
theorem enc_0 {g : Nat → Nat} : enc g 0 = 0 := rfl
theorem enc_ne0 {g : Nat → Nat} {n : Nat} (h : TN g n) : (enc g n = 0) ↔ n = 0 := by
  rw [show (0 : Int64) = enc g 0 from rfl, enc_eq h ⟨by decide, fun k hk => absurd hk (Nat.not_lt_zero k)⟩]
  constructor
  · exact fun q => q.1
  · rintro rfl; exact ⟨rfl, fun k hk => absurd hk (Nat.not_lt_zero k)⟩
/-- the note at a place, -1 where there is none -/
def nt (g : Nat → Nat) (n k : Nat) : Int32 := if k < n then nI (g k) else -1
theorem note_enc {g : Nat → Nat} {n k : Nat} (h : TN g n) (hk : k < 2 ^ 31) : f_X8_note (enc g n) (nI k) = some (nt g n k) := by
  have hs := encN_small h.lt h.1
  rw [f_X8_note, if_neg (nI_pos hk)]
  by_cases h8 : k < 8
  · rw [if_pos (show nI k < 8 from nI_lt h8 (by decide))]
    have e4 : (4 : Int32) * nI k = nI (4 * k) := pk_mul 4 k
    rw [e4, enc, q_lshr (by omega) (by omega), q_and15 (Nat.lt_of_le_of_lt (Nat.div_le_self _ _) (by omega)), lN_i, encN_dig n h.lt k, nt]
    by_cases hkn : k < n
    · rw [if_pos hkn, if_pos hkn, nI_pred]
    · rw [if_neg hkn, if_neg hkn]; rfl
  · rw [if_neg (show ¬ nI k < 8 from nI_nlt (b := 8) (by omega) hk), nt, if_neg (by have := h.1; omega)]
theorem with_end {g : Nat → Nat} {n x : Nat} (h : TN g n) (hn : n < 8) (hx : x < 12) : f_X8_with (enc g n) (nI n) (nI x) = some (enc (va_up g n x) (n + 1)) := by
  have h1 := encN_lt n h.lt
  have h2 : 2 ^ (4 * n) ≤ 2 ^ 28 := Nat.pow_le_pow_right (by decide) (by omega)
  have e := with_lem (k := n) (h := 0) (d := 0) (lo := encN g n) (x := x) (by decide) (by omega) h1 (by omega) (by omega) (by
    have : 2 ^ (4 * n) * (16 * 0 + (x + 1)) ≤ 2 ^ 28 * 15 := Nat.mul_le_mul h2 (by omega)
    omega)
  rw [show 2 ^ (4 * n) * (16 * 0 + 0) + encN g n = encN g n by omega] at e
  rw [enc, e, enc, encN, va_up_self, encN_congr n (fun k hk => (va_up_ne g x (show k ≠ n by omega))), show 16 * 0 + (x + 1) = x + 1 by omega]
theorem encN_at {g : Nat → Nat} : ∀ n k, k < n → (∀ j, j < n → g j < 15) → ∃ hh lo, lo < 2 ^ (4 * k) ∧ ∀ x, encN (va_up g k x) n = 2 ^ (4 * k) * (16 * hh + (x + 1)) + lo
  | 0, _, h, _ => absurd h (Nat.not_lt_zero _)
  | n + 1, k, h, hg => by
    by_cases hk : k = n
    · subst hk
      refine ⟨0, encN g k, encN_lt k (fun j hj => hg j (by omega)), fun x => ?_⟩
      rw [encN, va_up_self, encN_congr k (fun j hj => va_up_ne g x (show j ≠ k by omega)), show 16 * 0 + (x + 1) = x + 1 by omega]
    · obtain ⟨hh, lo, h1, h2⟩ := encN_at n k (by omega) (fun j hj => hg j (by omega))
      refine ⟨2 ^ (4 * (n - k - 1)) * (g n + 1) + hh, lo, h1, fun x => ?_⟩
      rw [encN, h2 x, va_up_ne g x (show n ≠ k by omega)]
      have e1 : 2 ^ (4 * n) = 2 ^ (4 * k) * (16 * 2 ^ (4 * (n - k - 1))) := by
        rw [show (16 : Nat) = 2 ^ 4 from rfl, ← Nat.pow_add, ← Nat.pow_add]
        congr 1; omega
      rw [e1, Nat.mul_assoc, Nat.mul_assoc, ← Nat.add_assoc, ← Nat.mul_add]
      congr 2
      rw [Nat.mul_add]; omega
theorem with_at {g : Nat → Nat} {n k x : Nat} (h : TN g n) (hk : k < n) (hx : x < 12) : f_X8_with (enc g n) (nI k) (nI x) = some (enc (va_up g k x) n) := by
  obtain ⟨hh, lo, h1, h2⟩ := encN_at n k hk h.lt
  have hv : encN g n = 2 ^ (4 * k) * (16 * hh + (g k + 1)) + lo := by
    rw [← h2 (g k)]
    exact encN_congr n (fun j _ => by by_cases q : j = k <;> simp [va_up, q])
  have hs := encN_small h.lt h.1
  have h' : TN (va_up g k x) n := ⟨h.1, fun j hj => by
    by_cases q : j = k
    · subst q; rw [va_up_self]; exact hx
    · rw [va_up_ne _ _ q]; exact h.2 j hj⟩
  have hs' := encN_small h'.lt h'.1
  have hgk := h.2 k hk
  have h8 := h.1
  rw [enc, hv, with_lem (by omega) (by omega) h1 (by omega) (by rw [← hv]; omega) (by rw [← h2 x]; omega), enc, h2 x]
theorem TN.up {g : Nat → Nat} {n x : Nat} (h : TN g n) (hn : n < 8) (hx : x < 12) : TN (va_up g n x) (n + 1) := ⟨hn, fun j hj => by
  by_cases q : j = n
  · subst q; rw [va_up_self]; exact hx
  · rw [va_up_ne _ _ q]; exact h.2 j (by omega)⟩
