theorem wb_tb (n : Nat) : (lN n).toBitVec = BitVec.ofNat 64 n := rfl
theorem wb_inj {a b : Int64} (h : a.toBitVec = b.toBitVec) : a = b := Int64.toBitVec_inj.mp h
theorem wb_tn {n : Nat} (h : n < 2 ^ 64) : (lN n).toBitVec.toNat = n := by rw [wb_tb, BitVec.toNat_ofNat, Nat.mod_eq_of_lt h]
theorem wb_of (x : Int64) : ∃ n, n < 2 ^ 64 ∧ x = lN n := ⟨x.toBitVec.toNat, x.toBitVec.isLt, wb_inj (by rw [wb_tb]; simp)⟩
theorem wb_of32 (x : Int32) : ∃ n, n < 2 ^ 32 ∧ x = nI n := ⟨x.toBitVec.toNat, x.toBitVec.isLt, Int32.toBitVec_inj.mp (by show _ = BitVec.ofNat 32 _; simp)⟩
theorem wb_c : ∀ k, k < 64 → ((nI k).toInt64 &&& 63) = lN k := by decide +kernel
theorem wb_cu : ∀ k, k < 64 → ((nI k).toInt64.toUInt64 &&& Int64.toUInt64 63) = UInt64.ofNat k := by decide +kernel
theorem wb_sm : ∀ k, k < 64 → (BitVec.ofNat 64 k).smod 64 = BitVec.ofNat 64 k := by decide +kernel
theorem wb_pw {a b : Nat} (h : a ≤ b) : 2 ^ b = 2 ^ a * 2 ^ (b - a) := by rw [← Nat.pow_add]; congr 1; omega
theorem wb_lt2 {a b : Nat} (h : a < b) : 2 ^ a < 2 ^ b := Nat.pow_lt_pow_right (by decide) h
theorem wb_mod (n : Nat) : lN n = lN (n % 2 ^ 64) := wb_inj (by rw [wb_tb, wb_tb]; apply BitVec.eq_of_toNat_eq; rw [BitVec.toNat_ofNat, BitVec.toNat_ofNat, Nat.mod_mod])
theorem wb_shr {n k : Nat} (hn : n < 2 ^ 64) (hk : k < 64) : ((lN n).toUInt64 >>> ((nI k).toInt64.toUInt64 &&& Int64.toUInt64 63)).toInt64 = lN (n / 2 ^ k) := by
  rw [wb_cu k hk]
  apply wb_inj
  apply BitVec.eq_of_toNat_eq
  show ((lN n).toUInt64 >>> UInt64.ofNat k).toNat = (BitVec.ofNat 64 _).toNat
  have h1 : (UInt64.ofNat k).toNat = k := by
    show (BitVec.ofNat 64 k).toNat = k
    rw [BitVec.toNat_ofNat, Nat.mod_eq_of_lt (by omega)]
  have h2 : (lN n).toUInt64.toNat = n := wb_tn hn
  rw [UInt64.toNat_shiftRight, h1, h2, Nat.mod_eq_of_lt hk, Nat.shiftRight_eq_div_pow, BitVec.toNat_ofNat, Nat.mod_eq_of_lt (Nat.lt_of_le_of_lt (Nat.div_le_self _ _) hn)]
theorem wb_shl (n : Nat) {k : Nat} (hk : k < 64) : lN n <<< ((nI k).toInt64 &&& 63) = lN (n * 2 ^ k) := by
  rw [wb_c k hk]
  apply wb_inj
  rw [Int64.toBitVec_shiftLeft, wb_tb, wb_tb, wb_tb, wb_sm k hk]
  apply BitVec.eq_of_toNat_eq
  rw [BitVec.shiftLeft_eq', BitVec.toNat_shiftLeft, BitVec.toNat_ofNat, BitVec.toNat_ofNat, BitVec.toNat_ofNat, Nat.mod_eq_of_lt (show k < 2 ^ 64 by omega), Nat.shiftLeft_eq, Nat.mul_mod, Nat.mod_mod, ← Nat.mul_mod]
theorem wb_and {a b : Nat} (ha : a < 2 ^ 64) (hb : b < 2 ^ 64) : lN a &&& lN b = lN (a &&& b) := by
  apply wb_inj
  rw [Int64.toBitVec_and, wb_tb, wb_tb, wb_tb]
  apply BitVec.eq_of_toNat_eq
  rw [BitVec.toNat_and, BitVec.toNat_ofNat, BitVec.toNat_ofNat, BitVec.toNat_ofNat, Nat.mod_eq_of_lt ha, Nat.mod_eq_of_lt hb, Nat.mod_eq_of_lt (Nat.and_lt_two_pow _ hb)]
theorem wb_or {a b : Nat} (ha : a < 2 ^ 64) (hb : b < 2 ^ 64) : lN a ||| lN b = lN (a ||| b) := by
  apply wb_inj
  rw [Int64.toBitVec_or, wb_tb, wb_tb, wb_tb]
  apply BitVec.eq_of_toNat_eq
  rw [BitVec.toNat_or, BitVec.toNat_ofNat, BitVec.toNat_ofNat, BitVec.toNat_ofNat, Nat.mod_eq_of_lt ha, Nat.mod_eq_of_lt hb, Nat.mod_eq_of_lt (Nat.or_lt_two_pow ha hb)]
theorem wb_mask {n k : Nat} (hn : n < 2 ^ 64) (hk : k < 64) : lN n &&& lN (2 ^ k - 1) = lN (n % 2 ^ k) := by
  rw [wb_and hn (by have := wb_lt2 hk; omega), Nat.and_two_pow_sub_one_eq_mod]
theorem wb_a1 {n : Nat} (hn : n < 2 ^ 64) : lN n &&& 1 = lN (n % 2) := wb_mask (k := 1) hn (by decide)
theorem wb_bit {n k : Nat} (hn : n < 2 ^ 64) (hk : k < 64) : ((lN n).toUInt64 >>> ((nI k).toInt64.toUInt64 &&& Int64.toUInt64 63)).toInt64 &&& 1 = lN (n / 2 ^ k % 2) := by
  rw [wb_shr hn hk, wb_a1 (Nat.lt_of_le_of_lt (Nat.div_le_self _ _) hn)]
theorem wb_xor {q k : Nat} (hk : k < 63) (h : 2 ^ k ≤ q) (h2 : q < 2 ^ (k + 1)) : lN q ^^^ lN (2 ^ k) = lN (q - 2 ^ k) := by
  obtain ⟨r, rfl⟩ : ∃ r, q = 2 ^ k + r := ⟨q - 2 ^ k, by omega⟩
  have hr : r < 2 ^ k := by rw [Nat.pow_succ] at h2; omega
  have hx : (2 ^ k + r) ^^^ 2 ^ k = r := by
    apply Nat.eq_of_testBit_eq
    intro i
    rw [Nat.testBit_xor, Nat.testBit_two_pow]
    rcases Nat.lt_trichotomy i k with h | h | h
    · rw [Nat.testBit_two_pow_add_gt h]
      simp [show ¬ k = i by omega]
    · subst h
      rw [Nat.testBit_two_pow_add_eq]
      simp
    · have a1 : 2 ^ (k + 1) ≤ 2 ^ i := Nat.pow_le_pow_right (by decide) h
      rw [Nat.testBit_lt_two_pow (show 2 ^ k + r < 2 ^ i by omega), Nat.testBit_lt_two_pow (show r < 2 ^ i by omega)]
      simp [show ¬ k = i by omega]
  have b1 := wb_lt2 (show k + 1 < 64 by omega)
  have b2 := wb_lt2 (show k < 64 by omega)
  apply wb_inj
  rw [Int64.toBitVec_xor, wb_tb, wb_tb, wb_tb]
  apply BitVec.eq_of_toNat_eq
  rw [BitVec.toNat_xor, BitVec.toNat_ofNat, BitVec.toNat_ofNat, BitVec.toNat_ofNat, Nat.mod_eq_of_lt (by omega : 2 ^ k + r < 2 ^ 64), Nat.mod_eq_of_lt b2, hx, Nat.add_sub_cancel_left, Nat.mod_eq_of_lt (by omega)]
/-! NUMBERS: nI and lN, Java's operations on them -/
theorem q_le {a b : Nat} (ha : a < 2 ^ 31) (hb : b < 2 ^ 31) : (nI a ≤ nI b) = (a ≤ b) := propext (nI_leI ha hb)
theorem q_lt {a b : Nat} (ha : a < 2 ^ 31) (hb : b < 2 ^ 31) : (nI a < nI b) = (a < b) := propext (nI_ltI ha hb)
theorem q_eq {a b : Nat} (ha : a < 2 ^ 31) (hb : b < 2 ^ 31) : (nI a = nI b) = (a = b) := propext (nI_eq ha hb)
theorem q_m1 {a : Nat} (ha : a < 2 ^ 31) : (nI a = -1) = False := by
  apply eq_false
  intro h
  have := congrArg Int32.toInt h
  rw [nI_toInt ha] at this
  have h2 : (-1 : Int32).toInt = -1 := by decide
  omega
theorem q_neg {a : Nat} (ha : a < 2 ^ 31) : (nI a < 0) = False := eq_false (nI_pos ha)
theorem q_in {a n : Nat} (ha : a < 2 ^ 31) : (inB (nI a) n) = (a < n) := by
  apply propext
  constructor
  · intro h
    rcases Nat.lt_or_ge a n with q | q
    · exact q
    · exact absurd (Or.inr (by rw [nI_clamp ha]; exact q)) h
  · intro h q
    rcases q with q | q
    · exact nI_pos ha q
    · rw [nI_clamp ha] at q; omega
theorem q_cl {a : Nat} (ha : a < 2 ^ 31) : (nI a).toNatClampNeg = a := nI_clamp ha
theorem q_rem {a d : Nat} (ha : a < 2 ^ 31) (h0 : 0 < d) (hd : d < 2 ^ 31) : j_rem (nI a) (nI d) = nI (a % d) := pk_rem ha h0 hd
theorem q_lshr {v s : Nat} (hv : v < 2 ^ 64) (hs : s < 64) : j_lushr (lN v) (nI s) = lN (v / 2 ^ s) := wb_shr hv hs
theorem q_lshl {v s : Nat} (hs : s < 64) : j_lshl (lN v) (nI s) = lN (v * 2 ^ s) := wb_shl v hs
theorem q_and15 {v : Nat} (hv : v < 2 ^ 64) : lN v &&& 15 = lN (v % 16) := wb_mask (k := 4) hv (by decide)
/-! the four bits at a place: 2 ^ (4 * k) * (16 * h + d) + lo -/
theorem q_notmask {m : Nat} (hm : m < 2 ^ 64) : lN m ^^^ (-1) = lN (2 ^ 64 - (m + 1)) := by
  apply wb_inj
  apply BitVec.eq_of_toNat_eq
  rw [wb_tn (by omega)]
  show ((lN m).toBitVec ^^^ (-1 : Int64).toBitVec).toNat = _
  rw [BitVec.toNat_xor, wb_tn hm]
  show m ^^^ (2 ^ 64 - 1) = _
  apply Nat.eq_of_testBit_eq
  intro i
  rw [Nat.testBit_xor, Nat.testBit_two_pow_sub_one, Nat.testBit_two_pow_sub_succ hm]
  by_cases hi : i < 64
  · simp [hi]
  · have : m.testBit i = false := Nat.testBit_lt_two_pow (Nat.lt_of_lt_of_le hm (Nat.pow_le_pow_right (by decide) (by omega)))
    simp [hi, this]
theorem q_cut {k h d lo : Nat} (hd : d < 16) (hlo : lo < 2 ^ (4 * k)) (hv : 2 ^ (4 * k) * (16 * h + d) + lo < 2 ^ 64) (hk : k < 16) : (2 ^ (4 * k) * (16 * h + d) + lo) &&& (2 ^ 64 - (15 * 2 ^ (4 * k) + 1)) = 2 ^ (4 * k) * (16 * h) + lo := by
  have hm : 15 * 2 ^ (4 * k) < 2 ^ 64 := by
    have : 2 ^ (4 * k) ≤ 2 ^ 60 := Nat.pow_le_pow_right (by decide) (by omega)
    omega
  apply Nat.eq_of_testBit_eq
  intro i
  rw [Nat.testBit_and, Nat.testBit_two_pow_sub_succ hm, Nat.testBit_two_pow_mul_add _ hlo, Nat.testBit_two_pow_mul_add _ hlo, Nat.mul_comm 15, Nat.testBit_two_pow_mul]
  have e16 : ∀ j, (16 * h + d).testBit j = if j < 4 then d.testBit j else h.testBit (j - 4) := fun j => Nat.testBit_two_pow_mul_add (i := 4) h (by omega) j
  have e16' : ∀ j, (16 * h).testBit j = if j < 4 then false else h.testBit (j - 4) := fun j => by
    have := Nat.testBit_two_pow_mul_add (i := 4) (b := 0) h (by omega) j
    simpa using this
  have e15 : ∀ j, (15 : Nat).testBit j = decide (j < 4) := fun j => Nat.testBit_two_pow_sub_one 4 j
  by_cases h1 : i < 4 * k
  · have h3 : ¬ i ≥ 4 * k := by omega
    have h4 : i < 64 := by omega
    simp [h1, h3, h4]
  · have h3 : i ≥ 4 * k := by omega
    rw [if_neg h1, if_neg h1, e16, e16', e15]
    by_cases h2 : i - 4 * k < 4
    · simp [h2, h3]
    · by_cases h5 : i < 64
      · simp [h2, h5]
      · have : h.testBit (i - 4 * k - 4) = false := by
          apply Nat.testBit_lt_two_pow
          have a1 : 2 ^ (4 * k) * (16 * h) < 2 ^ 64 := Nat.lt_of_le_of_lt (Nat.le_trans (Nat.mul_le_mul_left _ (Nat.le_add_right _ d)) (Nat.le_add_right _ lo)) hv
          have a2 : 2 ^ (4 * k + 4) * h < 2 ^ 64 := by rw [Nat.pow_add, Nat.mul_assoc]; exact a1
          rcases Nat.lt_or_ge h (2 ^ (i - 4 * k - 4)) with q | q
          · exact q
          · have a3 : 2 ^ (4 * k + 4) * 2 ^ (i - 4 * k - 4) ≤ 2 ^ (4 * k + 4) * h := Nat.mul_le_mul_left _ q
            rw [← Nat.pow_add] at a3
            have a4 : 2 ^ 64 ≤ 2 ^ (4 * k + 4 + (i - 4 * k - 4)) := Nat.pow_le_pow_right (by decide) (by omega)
            omega
        simp [h2, this]
theorem q_lay {k h y lo : Nat} (hy : y < 16) (hlo : lo < 2 ^ (4 * k)) : (2 ^ (4 * k) * (16 * h) + lo) ||| (y * 2 ^ (4 * k)) = 2 ^ (4 * k) * (16 * h + y) + lo := by
  apply Nat.eq_of_testBit_eq
  intro i
  rw [Nat.testBit_or, Nat.testBit_two_pow_mul_add _ hlo, Nat.testBit_two_pow_mul_add _ hlo, Nat.mul_comm y, Nat.testBit_two_pow_mul]
  have e16 : ∀ j, (16 * h + y).testBit j = if j < 4 then y.testBit j else h.testBit (j - 4) := fun j => Nat.testBit_two_pow_mul_add (i := 4) h (by omega) j
  have e16' : ∀ j, (16 * h).testBit j = if j < 4 then false else h.testBit (j - 4) := fun j => by
    have := Nat.testBit_two_pow_mul_add (i := 4) (b := 0) h (by omega) j
    simpa using this
  have ey : ∀ j, ¬ j < 4 → y.testBit j = false := fun j hj => Nat.testBit_lt_two_pow (Nat.lt_of_lt_of_le hy (show 2 ^ 4 ≤ 2 ^ j from Nat.pow_le_pow_right (by decide) (by omega)))
  by_cases h1 : i < 4 * k
  · have h3 : ¬ i ≥ 4 * k := by omega
    simp [h1, h3]
  · have h3 : i ≥ 4 * k := by omega
    rw [if_neg h1, if_neg h1, e16, e16']
    by_cases h2 : i - 4 * k < 4
    · simp [h2, h3]
    · simp [h2, ey _ h2]
theorem with_lem {k h d lo x : Nat} (hd : d < 16) (hx : x < 15) (hlo : lo < 2 ^ (4 * k)) (hk : k < 8) (hv : 2 ^ (4 * k) * (16 * h + d) + lo < 2 ^ 63) (hw : 2 ^ (4 * k) * (16 * h + (x + 1)) + lo < 2 ^ 64) : f_X8_with (lN (2 ^ (4 * k) * (16 * h + d) + lo)) (nI k) (nI x) = some (lN (2 ^ (4 * k) * (16 * h + (x + 1)) + lo)) := by
  have e4 : (4 : Int32) * nI k = nI (4 * k) := pk_mul 4 k
  have e15 : j_lshl 15 (nI (4 * k)) = lN (15 * 2 ^ (4 * k)) := q_lshl (v := 15) (by omega)
  have hm : 15 * 2 ^ (4 * k) < 2 ^ 64 := by
    have : 2 ^ (4 * k) ≤ 2 ^ 60 := Nat.pow_le_pow_right (by decide) (by omega)
    omega
  have ex : (nI x).toInt64 + 1 = lN (x + 1) := by rw [nI_l (by omega), lN_1]
  have hy : (x + 1) * 2 ^ (4 * k) < 2 ^ 64 := by
    have : 2 ^ (4 * k) ≤ 2 ^ 28 := Nat.pow_le_pow_right (by decide) (by omega)
    have : (x + 1) * 2 ^ (4 * k) ≤ 15 * 2 ^ 28 := Nat.mul_le_mul (by omega) this
    omega
  have hc := q_cut hd hlo (show 2 ^ (4 * k) * (16 * h + d) + lo < 2 ^ 64 by omega) (show k < 16 by omega)
  have hlt : 2 ^ (4 * k) * (16 * h) + lo < 2 ^ 64 := by
    have : 2 ^ (4 * k) * (16 * h) ≤ 2 ^ (4 * k) * (16 * h + d) := Nat.mul_le_mul_left _ (by omega)
    omega
  rw [f_X8_with, e4]
  show some _ = some _
  rw [e15, q_notmask hm, wb_and (by omega) (by omega), hc, ex, q_lshl (by omega), wb_or hlt hy, q_lay (by omega) hlo]
