/-- KEY: the least of those that have most -/
def keyS (g : Nat → Nat) (n : Nat) : Nat := itr (fun key b => if inK g n key ≤ inK g n b then b else key) 1 23 0
theorem keyS_lt (g : Nat → Nat) (n : Nat) : keyS g n < 24 := by
  have := itr_inv (step := fun key b => if inK g n key ≤ inK g n b then b else key) (fun j b => b < 24) 23 1 0 (fun i a h1 h2 h3 => by
    by_cases q : inK g n i ≤ inK g n a
    · show (if inK g n i ≤ inK g n a then a else i) < 24
      rw [if_pos q]; exact h3
    · show (if inK g n i ≤ inK g n a then a else i) < 24
      rw [if_neg q]; omega) (by decide)
  exact this
theorem inK_le (g : Nat → Nat) (n key : Nat) (hn : n ≤ 8) : inK g n key ≤ 8 := by
  have := itr_inv (step := fun j a => a + scb key ((g j + 12 - key % 12) % 12)) (fun j a => a ≤ j) n 0 0 (fun i a h1 h2 h3 => by
    rcases scb01 key ((g i + 12 - key % 12) % 12) with e | e <;> (show a + scb key ((g i + 12 - key % 12) % 12) ≤ i + 1) <;> rw [e] <;> omega) (Nat.le_refl 0)
  have h2 : inK g n key ≤ 0 + n := this
  omega
theorem key_X {g : Nat → Nat} {n : Nat} (h : TN g n) : f_X8_key (enc g n) = some (nI (keyS g n)) := by
  have h8 := h.1
  rw [f_X8_key, show (0 : Int32) = nI 0 from rfl, inKey_X h (by decide), o_bs]
  have kk := loopN (α := Nat) (fun fu v b => f_X8_key_L11 fu (enc g n) (nI b) (nI (inK g n b)) v) 24 (fun _ b => b < 24) (fun key b => if inK g n key ≤ inK g n b then b else key) (fun b => some (nI b))
    (fun f j b hj hb => by
      show f_X8_key_L11 (f + 1) (enc g n) (nI b) (nI (inK g n b)) (nI j) = _
      have l1 := inK_le g n j h8
      have l2 := inK_le g n b h8
      rw [f_X8_key_L11, if_neg (show ¬ (24 : Int32) ≤ nI j from nI_ge (a := j) (b := 24) hj (by decide)), inKey_X h hj, o_bs]
      by_cases q : inK g n j ≤ inK g n b
      · rw [if_pos (nI_le q (by omega)), o_bs, nI_1, if_pos q]
      · rw [if_neg (nI_ge (by omega) (by omega)), o_bs, nI_1, if_neg q])
    (fun j b hj hb => by
      show (if inK g n j ≤ inK g n b then b else j) < 24
      by_cases q : inK g n j ≤ inK g n b
      · rw [if_pos q]; exact hb
      · rw [if_neg q]; exact hj)
    (fun f b _ => by
      show f_X8_key_L11 (f + 1) (enc g n) (nI b) (nI (inK g n b)) (nI 24) = _
      rw [f_X8_key_L11, if_pos (by decide)])
  exact kk 23 1 0 fuel (by decide) (by rw [fuel_eq]; omega) (by decide)
theorem key_M {σ : ST} {w : Nat} {g : Nat → Nat} {n : Nat} (hw : w < 2) (h : TM σ w g n) : f_X11_keyOf σ (nI w) = some (nI (keyS g n)) := by
  have h8 := h.1.1
  rw [f_X11_keyOf]
  have kk := loopN (α := Nat) (fun fu v b => f_X11_keyOf_L4 σ fu (nI w) (nI b) v) 24 (fun _ b => b < 24) (fun key b => if inK g n key ≤ inK g n b then b else key) (fun b => some (nI b))
    (fun f j b hj hb => by
      show f_X11_keyOf_L4 σ (f + 1) (nI w) (nI b) (nI j) = _
      have l1 := inK_le g n j h8
      have l2 := inK_le g n b h8
      rw [f_X11_keyOf_L4, if_neg (show ¬ (24 : Int32) ≤ nI j from nI_ge (a := j) (b := 24) hj (by decide)), inKey_M hw h hj, o_bs, inKey_M hw h hb, o_bs, o_bs, o_bs, nI_1]
      by_cases q : inK g n j ≤ inK g n b
      · rw [if_pos (nI_le q (by omega)), if_pos q]
      · rw [if_neg (nI_ge (by omega) (by omega)), if_neg q])
    (fun j b hj hb => by
      show (if inK g n j ≤ inK g n b then b else j) < 24
      by_cases q : inK g n j ≤ inK g n b
      · rw [if_pos q]; exact hb
      · rw [if_neg q]; exact hj)
    (fun f b _ => by
      show f_X11_keyOf_L4 σ (f + 1) (nI w) (nI b) (nI 24) = _
      rw [f_X11_keyOf_L4, if_pos (by decide)])
  exact kk 23 1 0 fuel (by decide) (by rw [fuel_eq]; omega) (by decide)
/-! APART -/
def apt (g : Nat → Nat) (n : Nat) (g' : Nat → Nat) (n' : Nat) : Nat := itr (fun k a => if nt g n k = nt g' n' k then a else a + 1) 0 8 0
theorem unlike_X {g g' : Nat → Nat} {n n' : Nat} (h : TN g n) (h' : TN g' n') : f_X8_unlike (enc g n) (enc g' n') = some (nI (apt g n g' n')) := by
  rw [f_X8_unlike]
  have kk := loopN (α := Nat) (fun fu v a => f_X8_unlike_L6 fu (enc g n) (enc g' n') (nI a) v) 8 (fun _ _ => True) (fun k a => if nt g n k = nt g' n' k then a else a + 1) (fun a => some (nI a))
    (fun f j a hj _ => by
      show f_X8_unlike_L6 (f + 1) (enc g n) (enc g' n') (nI a) (nI j) = _
      rw [f_X8_unlike_L6, if_neg (show ¬ (8 : Int32) ≤ nI j from nI_ge (a := j) (b := 8) hj (by decide)), note_enc h (by omega), o_bs, note_enc h' (by omega), o_bs, o_bs, o_bs, nI_1 j]
      by_cases q : nt g n j = nt g' n' j
      · rw [if_pos q, if_pos q]
      · rw [if_neg q, if_neg q, nI_1])
    (fun _ _ _ _ => trivial)
    (fun f a _ => by
      show f_X8_unlike_L6 (f + 1) (enc g n) (enc g' n') (nI a) (nI 8) = _
      rw [f_X8_unlike_L6, if_pos (by decide)])
  exact kk 8 0 0 fuel (by decide) (by rw [fuel_eq]; omega) trivial
theorem itr_add {α : Type} (step : Nat → α → α) : ∀ m1 m2 j a, itr step j (m1 + m2) a = itr step (j + m1) m2 (itr step j m1 a)
  | 0, m2, j, a => by rw [Nat.zero_add]; rfl
  | m1 + 1, m2, j, a => by
    rw [show m1 + 1 + m2 = (m1 + m2) + 1 by omega, itr, itr, itr_add step m1 m2 (j + 1) (step j a), show j + 1 + m1 = j + (m1 + 1) by omega]
theorem itr_inc {step : Nat → Nat → Nat} : ∀ m j a, (∀ i a, j ≤ i → i < j + m → step i a = a + 1) → itr step j m a = a + m
  | 0, _, _, _ => rfl
  | m + 1, j, a, h => by
    rw [itr, h j a (by omega) (by omega), itr_inc m (j + 1) (a + 1) (fun i a h1 h2 => h i a (by omega) (by omega))]; omega
theorem itr_same {α : Type} {step : Nat → α → α} : ∀ m j a, (∀ i a, j ≤ i → i < j + m → step i a = a) → itr step j m a = a
  | 0, _, _, _ => rfl
  | m + 1, j, a, h => by
    rw [itr, h j a (by omega) (by omega), itr_same m (j + 1) a (fun i a h1 h2 => h i a (by omega) (by omega))]
theorem nt_in {g : Nat → Nat} {n k : Nat} (h : k < n) : nt g n k = nI (g k) := if_pos h
theorem nt_out {g : Nat → Nat} {n k : Nat} (h : ¬ k < n) : nt g n k = -1 := if_neg h
/-- the places that both have; then those that one has -/
theorem apt_sum {g g' : Nat → Nat} {n n' : Nat} (h : TN g n) (h' : TN g' n') : apt g n g' n' = itr (fun k a => if g k = g' k then a else a + 1) 0 (if n < n' then n else n') 0 + (n + n' - 2 * (if n < n' then n else n')) := by
  have h8 := h.1
  have h8' := h'.1
  obtain ⟨b, hb⟩ : ∃ b, (if n < n' then n else n') = b := ⟨_, rfl⟩
  have hb1 : b ≤ n ∧ b ≤ n' ∧ (b = n ∨ b = n') := by
    rw [← hb]; by_cases q : n < n'
    · rw [if_pos q]; omega
    · rw [if_neg q]; omega
  rw [hb, apt, show (8 : Nat) = b + ((n + n' - 2 * b) + (8 - (n + n' - b))) by omega, itr_add, itr_add]
  have e1 : itr (fun k a => if nt g n k = nt g' n' k then a else a + 1) 0 b 0 = itr (fun k a => if g k = g' k then a else a + 1) 0 b 0 := itr_congr b 0 0 (fun i a _ hi => by
    have hi : i < b := by omega
    show (if nt g n i = nt g' n' i then a else a + 1) = if g i = g' i then a else a + 1
    rw [nt_in (by omega), nt_in (by omega)]
    have l1 := h.2 i (by omega)
    have l2 := h'.2 i (by omega)
    exact q_if (nI_eq (by omega) (by omega)))
  rw [e1, itr_inc (n + n' - 2 * b) (0 + b) _ (fun i a h1 h2 => ?_), itr_same _ _ _ (fun i a h1 h2 => ?_)]
  · show (if nt g n i = nt g' n' i then a else a + 1) = a
    rw [nt_out (by omega), nt_out (by omega), if_pos rfl]
  · show (if nt g n i = nt g' n' i then a else a + 1) = a + 1
    by_cases q : i < n
    · have l1 := h.2 i q
      rw [nt_in q, nt_out (by omega), if_neg (by rw [q_m1 (by omega)]; exact not_false)]
    · have q' : i < n' := by omega
      have l1 := h'.2 i q'
      rw [nt_out q, nt_in q', if_neg (fun z => by have := z.symm; rw [q_m1 (by omega)] at this; exact this)]
theorem apart_M {σ : ST} {o o' : Nat} {g g' : Nat → Nat} {n n' : Nat} (h : TN g n) (h' : TN g' n') (hr : RW σ o g n) (hr' : RW σ o' g' n') : f_X11_apartOf o 8 o' 8 σ (nI n) (nI n') = some (nI (apt g n g' n')) := by
  have h8 := h.1
  have h8' := h'.1
  rw [apt_sum h h']
  obtain ⟨b, hb⟩ : ∃ b, (if n < n' then n else n') = b := ⟨_, rfl⟩
  have hb1 : b ≤ n ∧ b ≤ n' := by
    rw [← hb]; by_cases q : n < n'
    · rw [if_pos q]; omega
    · rw [if_neg q]; omega
  have eb : (if nI n' ≤ nI n then nI n' else nI n) = nI b := by
    rw [← hb]
    by_cases q : n < n'
    · rw [if_neg (nI_ge q (by omega)), if_pos q]
    · rw [if_pos (nI_le (by omega) (by omega)), if_neg q]
  have e2 : nI n + nI n' - 2 * nI b = nI (n + n' - 2 * b) := by
    rw [show (2 : Int32) = nI 2 from rfl, pk_mul, nI_add, pk_sub (by omega)]
  rw [hb, f_X11_apartOf, eb, o_bs, f_X11_apartOf_B10, e2, o_bs]
  have kk := loopN (α := Nat) (fun fu v a => f_X11_apartOf_L25 o 8 o' 8 σ fu (nI b) (nI a) v) b (fun _ _ => True) (fun k a => if g k = g' k then a else a + 1) (fun a => some (nI a))
    (fun f j a hj _ => by
      show f_X11_apartOf_L25 o 8 o' 8 σ (f + 1) (nI b) (nI a) (nI j) = _
      have l1 := h.2 j (by omega)
      have l2 := h'.2 j (by omega)
      rw [f_X11_apartOf_L25, if_neg (nI_ge hj (by omega)), if_pos (by rw [q_in (by omega)]; omega), if_pos (by rw [q_in (by omega)]; omega), q_cl (by omega), hr j (by omega), hr' j (by omega), o_bs, o_bs, o_bs, nI_1, q_if (nI_eq (by omega) (by omega))]
      by_cases q : g j = g' j
      · rw [if_pos q, if_pos q, Int32.add_zero]
      · rw [if_neg q, if_neg q, nI_1])
    (fun _ _ _ _ => trivial)
    (fun f a _ => by
      show f_X11_apartOf_L25 o 8 o' 8 σ (f + 1) (nI b) (nI a) (nI b) = _
      rw [f_X11_apartOf_L25, if_pos (nI_le (Nat.le_refl b) (by omega))])
  have e3 := kk b 0 (n + n' - 2 * b) fuel (by omega) (by rw [fuel_eq]; omega) trivial
  have e4 := itr_hom (step := fun k a => if g k = g' k then a else a + 1) (step' := fun k a => if g k = g' k then a else a + 1) (fun a => a + (n + n' - 2 * b)) b 0 0 (fun i a _ _ => by
    by_cases q : g i = g' i
    · show (if g i = g' i then a else a + 1) + _ = if g i = g' i then _ else _
      rw [if_pos q, if_pos q]
    · show (if g i = g' i then a else a + 1) + _ = if g i = g' i then _ else _
      rw [if_neg q, if_neg q]; omega)
  rw [show (0 : Int32) = nI 0 from rfl, e3]
  rw [Nat.zero_add] at e4
  rw [← e4]
