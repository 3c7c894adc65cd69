/-! what a tune tells: TRITONES, NOTES as bits, KEY; the class's side and the reference's -/
/-- the reference's row o holds the tune -/
def RW (σ : ST) (o : Nat) (g : Nat → Nat) (n : Nat) : Prop := ∀ k, k < n → σ.1 o k = nI (g k)
def tri (g : Nat → Nat) (n : Nat) : Nat := itr (fun j a => if g j = g (j - 1) + 6 ∨ g (j - 1) = g j + 6 then a + 1 else a) 1 (n - 1) 0
theorem tri_tab : ∀ a, a < 12 → ∀ b, b < 12 → (((if 0 ≤ nI a - nI b then nI a - nI b else 0 - (nI a - nI b)) = 6) ↔ (a = b + 6 ∨ b = a + 6)) := by decide +kernel
theorem tri_tabM : ∀ a, a < 12 → ∀ b, b < 12 → ((nI ((a + 12 - b) % 12) = 6) ↔ (a = b + 6 ∨ b = a + 6)) := by decide +kernel
theorem tri_int (g : Nat → Nat) (m j a : Nat) : itr (fun j (a : Int32) => if g j = g (j - 1) + 6 ∨ g (j - 1) = g j + 6 then a + 1 else a) j m (nI a) = nI (itr (fun j a => if g j = g (j - 1) + 6 ∨ g (j - 1) = g j + 6 then a + 1 else a) j m a) :=
  (itr_hom nI m j a (fun i a _ _ => by
    by_cases q : g i = g (i - 1) + 6 ∨ g (i - 1) = g i + 6
    · rw [if_pos q, if_pos q, nI_1]
    · rw [if_neg q, if_neg q])).symm
theorem tri_X {g : Nat → Nat} {n : Nat} (h : TN g n) : f_X8_tritones (enc g n) = some (nI (tri g n)) := by
  have h8 := h.1
  rw [f_X8_tritones]
  by_cases h0 : n = 0
  · subst h0
    obtain ⟨f, hf⟩ := fuel_s
    rw [hf, f_X8_tritones_L4, if_neg (show ¬ (8 : Int32) ≤ 1 by decide), show (1 : Int32) = nI 1 from rfl, note_enc h (by decide), nt, if_neg (Nat.not_lt_zero 1)]
    rfl
  have key := loopN (α := Int32) (fun fu v a => f_X8_tritones_L4 fu (enc g n) a v) n (fun j _ => 1 ≤ j) (fun j a => if g j = g (j - 1) + 6 ∨ g (j - 1) = g j + 6 then a + 1 else a) (fun a => some a)
    (fun f j a hj h1 => by
      show f_X8_tritones_L4 (f + 1) (enc g n) a (nI j) = _
      have e1 : nI j - 1 = nI (j - 1) := pk_sub (b := 1) h1
      rw [f_X8_tritones_L4, if_neg (show ¬ (8 : Int32) ≤ nI j from nI_ge (a := j) (b := 8) (by omega) (by decide)), note_enc h (by omega), e1, note_enc h (by omega), nt, nt, if_pos hj, if_pos (show j - 1 < n by omega)]
      show (if nI (g j) = -1 then _ else _) = _
      rw [if_neg (by rw [q_m1 (by have := h.2 j hj; omega)]; exact not_false)]
      show f_X8_tritones_L4 f (enc g n) (if (if 0 ≤ nI (g j) - nI (g (j - 1)) then nI (g j) - nI (g (j - 1)) else 0 - (nI (g j) - nI (g (j - 1)))) = 6 then a + 1 else a) (nI j + 1) = _
      rw [nI_1, q_if (tri_tab _ (h.2 j hj) _ (h.2 (j - 1) (by omega)))])
    (fun j a hj h1 => by omega)
    (fun f a _ => by
      show f_X8_tritones_L4 (f + 1) (enc g n) a (nI n) = _
      rw [f_X8_tritones_L4]
      by_cases h9 : n = 8
      · subst h9; rw [if_pos (show (8 : Int32) ≤ nI 8 by decide)]
      · rw [if_neg (show ¬ (8 : Int32) ≤ nI n from nI_ge (a := n) (b := 8) (by omega) (by decide)), note_enc h (by omega), nt, if_neg (Nat.lt_irrefl n)]
        rfl)
  have := key (n - 1) 1 0 fuel (by omega) (by rw [fuel_eq]; omega) (Nat.le_refl 1)
  rw [show (1 : Int32) = nI 1 from rfl, this, show (0 : Int32) = nI 0 from rfl, tri_int, tri]
theorem tri_M {σ : ST} {o : Nat} {g : Nat → Nat} {n : Nat} (h : TN g n) (hr : RW σ o g n) : f_X11_tritonesOf o 8 σ (nI n) = some (nI (tri g n)) := by
  have h8 := h.1
  rw [f_X11_tritonesOf]
  by_cases h0 : n = 0
  · subst h0; obtain ⟨f, hf⟩ := fuel_s; rw [hf]; rfl
  have key := loopN (α := Int32) (fun fu v a => f_X11_tritonesOf_L4 o 8 σ fu (nI n) a v) n (fun j _ => 1 ≤ j) (fun j a => if g j = g (j - 1) + 6 ∨ g (j - 1) = g j + 6 then a + 1 else a) (fun a => some a)
    (fun f j a hj h1 => by
      show f_X11_tritonesOf_L4 o 8 σ (f + 1) (nI n) a (nI j) = _
      have e1 : nI j - 1 = nI (j - 1) := pk_sub (b := 1) h1
      rw [f_X11_tritonesOf_L4, if_neg (nI_ge hj (by omega)), e1, if_pos (by rw [q_in (by omega)]; omega), if_pos (by rw [q_in (by omega)]; omega), q_cl (by omega), q_cl (by omega), hr j hj, hr (j - 1) (by omega), above_M _ (h.2 j hj) _ (h.2 (j - 1) (by omega))]
      show f_X11_tritonesOf_L4 o 8 σ f (nI n) (a + if nI ((g j + 12 - g (j - 1)) % 12) = 6 then 1 else 0) (nI j + 1) = _
      rw [nI_1, q_if (tri_tabM _ (h.2 j hj) _ (h.2 (j - 1) (by omega)))]
      by_cases q : g j = g (j - 1) + 6 ∨ g (j - 1) = g j + 6
      · rw [if_pos q, if_pos q]
      · rw [if_neg q, if_neg q, Int32.add_zero])
    (fun j a hj h1 => by omega)
    (fun f a _ => by
      show f_X11_tritonesOf_L4 o 8 σ (f + 1) (nI n) a (nI n) = _
      rw [f_X11_tritonesOf_L4, if_pos (nI_le (Nat.le_refl n) (by omega))])
  have := key (n - 1) 1 0 fuel (by omega) (by rw [fuel_eq]; omega) (Nat.le_refl 1)
  rw [show (1 : Int32) = nI 1 from rfl, this, show (0 : Int32) = nI 0 from rfl, tri_int, tri]
/-! notes as bits -/
def bts (g : Nat → Nat) (n : Nat) : Int32 := itr (fun j a => a ||| j_shl 1 (nI (g j))) 0 n 0
theorem bits_X {g : Nat → Nat} {n : Nat} (h : TN g n) : f_X8_bits (enc g n) = some (bts g n) := by
  have h8 := h.1
  rw [f_X8_bits, length_enc h]
  show f_X8_bits_L10 fuel (enc g n) 0 (nI n) (nI 0) = _
  have key := loopN (α := Int32) (fun fu v a => f_X8_bits_L10 fu (enc g n) a (nI n) v) n (fun _ _ => True) (fun j a => a ||| j_shl 1 (nI (g j))) (fun a => some a)
    (fun f j a hj _ => by
      show f_X8_bits_L10 (f + 1) (enc g n) a (nI n) (nI j) = _
      rw [f_X8_bits_L10, if_neg (nI_ge hj (by omega)), note_enc h (by omega), nt, if_pos hj]
      show f_X8_bits_L10 f (enc g n) _ (nI n) (nI j + 1) = _
      rw [nI_1])
    (fun _ _ _ _ => trivial)
    (fun f a _ => by
      show f_X8_bits_L10 (f + 1) (enc g n) a (nI n) (nI n) = _
      rw [f_X8_bits_L10, if_pos (nI_le (Nat.le_refl n) (by omega))])
  exact key n 0 0 fuel (by omega) (by rw [fuel_eq]; omega) trivial
/-- which of the reference's two tunes: its row and length -/
def TM (σ : ST) (w : Nat) (g : Nat → Nat) (n : Nat) : Prop := TN g n ∧ RW σ (25 + w) g n ∧ σ.1 20 (13 + w) = nI n
theorem many_M {σ : ST} {w : Nat} {g : Nat → Nat} {n : Nat} (hw : w < 2) (h : TM σ w g n) : f_X11_manyOf σ (nI w) = some (nI n) := by
  rw [f_X11_manyOf, ← h.2.2]
  rcases (show w = 0 ∨ w = 1 by omega) with rfl | rfl
  · rfl
  · rw [if_neg (by decide)]
theorem noteAt_M {σ : ST} {w : Nat} {g : Nat → Nat} {n k : Nat} (hw : w < 2) (h : TM σ w g n) (hk : k < n) : f_X11_noteAt σ (nI w) (nI k) = some (nI (g k)) := by
  have h8 := h.1.1
  have e := h.2.1 k hk
  rw [f_X11_noteAt, if_pos (show inB (nI k) 8 by rw [q_in (by omega)]; omega), if_pos (show inB (nI k) 8 by rw [q_in (by omega)]; omega), q_cl (by omega)]
  rcases (show w = 0 ∨ w = 1 by omega) with rfl | rfl
  · rw [if_pos (by decide), ← e]
  · rw [if_neg (by decide), ← e]
theorem bits_M {σ : ST} {w : Nat} {g : Nat → Nat} {n : Nat} (hw : w < 2) (h : TM σ w g n) : f_X11_notesOf σ (nI w) = some (bts g n) := by
  have h8 := h.1.1
  rw [f_X11_notesOf]
  have key := loopN (α := Int32) (fun fu v a => f_X11_notesOf_L4 σ fu (nI w) a v) n (fun _ _ => True) (fun j a => a ||| j_shl 1 (nI (g j))) (fun a => some a)
    (fun f j a hj _ => by
      show f_X11_notesOf_L4 σ (f + 1) (nI w) a (nI j) = _
      rw [f_X11_notesOf_L4, many_M hw h]
      show (if nI n ≤ nI j then _ else _) = _
      rw [if_neg (nI_ge hj (by omega)), noteAt_M hw h hj]
      show f_X11_notesOf_L4 σ f (nI w) _ (nI j + 1) = _
      rw [nI_1])
    (fun _ _ _ _ => trivial)
    (fun f a _ => by
      show f_X11_notesOf_L4 σ (f + 1) (nI w) a (nI n) = _
      rw [f_X11_notesOf_L4, many_M hw h]
      show (if nI n ≤ nI n then _ else _) = _
      rw [if_pos (nI_le (Nat.le_refl n) (by omega))])
  exact key n 0 0 fuel (by omega) (by rw [fuel_eq]; omega) trivial
/-! KEY -/
def scb (key d : Nat) : Nat := (if 12 ≤ key then 1453 else 2741) / 2 ^ d % 2
theorem sc_X : ∀ key, key < 24 → ∀ d, d < 12 → (j_shr (if (12 : Int32) ≤ nI key then 1453 else 2741) (nI d)) &&& 1 = nI (scb key d) := by decide +kernel
theorem sc_M : ∀ key, key < 24 → ∀ d, d < 12 → f_X11_isInScale (nI key) (nI d) = some (nI (scb key d)) := by decide +kernel
theorem rem12 : ∀ key, key < 24 → j_rem (nI key) 12 = nI (key % 12) := by decide +kernel
theorem scb01 (key d : Nat) : scb key d = 0 ∨ scb key d = 1 := by unfold scb; omega
def inK (g : Nat → Nat) (n key : Nat) : Nat := itr (fun j a => a + scb key ((g j + 12 - key % 12) % 12)) 0 n 0
theorem inK_int (g : Nat → Nat) (key m j a : Nat) : itr (fun j (a : Int32) => a + nI (scb key ((g j + 12 - key % 12) % 12))) j m (nI a) = nI (itr (fun j a => a + scb key ((g j + 12 - key % 12) % 12)) j m a) :=
  (itr_hom nI m j a (fun i a _ _ => by rw [nI_add])).symm
theorem inKey_X {g : Nat → Nat} {n key : Nat} (h : TN g n) (hk : key < 24) : f_X8_inKey (enc g n) (nI key) = some (nI (inK g n key)) := by
  have h8 := h.1
  rw [f_X8_inKey]
  show f_X8_inKey_B15 (enc g n) (nI key) (if (12 : Int32) ≤ nI key then 1453 else 2741) = _
  rw [f_X8_inKey_B15, rem12 key hk]
  rw [o_bs, length_enc h]
  show f_X8_inKey_L34 fuel (enc g n) (if (12 : Int32) ≤ nI key then 1453 else 2741) (nI (key % 12)) (nI n) (nI 0) (nI 0) = _
  have kk := loopN (α := Int32) (fun fu v a => f_X8_inKey_L34 fu (enc g n) (if (12 : Int32) ≤ nI key then 1453 else 2741) (nI (key % 12)) (nI n) a v) n (fun _ _ => True) (fun j a => a + nI (scb key ((g j + 12 - key % 12) % 12))) (fun a => some a)
    (fun f j a hj _ => by
      show f_X8_inKey_L34 (f + 1) (enc g n) _ (nI (key % 12)) (nI n) a (nI j) = _
      rw [f_X8_inKey_L34, if_neg (nI_ge hj (by omega)), note_enc h (by omega), nt, if_pos hj]
      rw [o_bs, above_X _ (h.2 j hj) _ (mod12 key)]
      show f_X8_inKey_L34 f (enc g n) _ (nI (key % 12)) (nI n) (a + (j_shr (if (12 : Int32) ≤ nI key then 1453 else 2741) (nI ((g j + 12 - key % 12) % 12)) &&& 1)) (nI j + 1) = _
      rw [sc_X key hk _ (mod12 _), nI_1])
    (fun _ _ _ _ => trivial)
    (fun f a _ => by
      show f_X8_inKey_L34 (f + 1) (enc g n) _ (nI (key % 12)) (nI n) a (nI n) = _
      rw [f_X8_inKey_L34, if_pos (nI_le (Nat.le_refl n) (by omega))])
  rw [kk n 0 (nI 0) fuel (by omega) (by rw [fuel_eq]; omega) trivial, inK_int, inK]
theorem inKey_M {σ : ST} {w : Nat} {g : Nat → Nat} {n key : Nat} (hw : w < 2) (h : TM σ w g n) (hk : key < 24) : f_X11_inKey σ (nI w) (nI key) = some (nI (inK g n key)) := by
  have h8 := h.1.1
  rw [f_X11_inKey]
  have kk := loopN (α := Int32) (fun fu v a => f_X11_inKey_L5 σ fu (nI w) (nI key) a v) n (fun _ _ => True) (fun j a => a + nI (scb key ((g j + 12 - key % 12) % 12))) (fun a => some a)
    (fun f j a hj _ => by
      show f_X11_inKey_L5 σ (f + 1) (nI w) (nI key) a (nI j) = _
      rw [f_X11_inKey_L5, many_M hw h]
      show (if nI n ≤ nI j then _ else _) = _
      rw [if_neg (nI_ge hj (by omega)), noteAt_M hw h hj]
      rw [o_bs, rem12 key hk, above_M _ (h.1.2 j hj) _ (mod12 key)]
      rw [o_bs, sc_M key hk _ (mod12 _)]
      show f_X11_inKey_L5 σ f (nI w) (nI key) (a + if nI (scb key ((g j + 12 - key % 12) % 12)) = 0 then 0 else 1) (nI j + 1) = _
      rw [nI_1]
      rcases scb01 key ((g j + 12 - key % 12) % 12) with e | e <;> rw [e] <;> rfl)
    (fun _ _ _ _ => trivial)
    (fun f a _ => by
      show f_X11_inKey_L5 σ (f + 1) (nI w) (nI key) a (nI n) = _
      rw [f_X11_inKey_L5, many_M hw h]
      show (if nI n ≤ nI n then _ else _) = _
      rw [if_pos (nI_le (Nat.le_refl n) (by omega))])
  show f_X11_inKey_L5 σ fuel (nI w) (nI key) (nI 0) (nI 0) = _
  rw [kk n 0 (nI 0) fuel (by omega) (by rw [fuel_eq]; omega) trivial, inK_int, inK]
