/-! LOOPS that count: what they come to -/
theorem o_bs {α β : Type} (a : α) (f : α → Option β) : (some a).bind f = f a := rfl
theorem fuel_s : ∃ f, fuel = f + 1 := ⟨16777215, fuel_eq⟩
theorem o_b2s {α β : Type} (a : α) (s : ST) (f : α → ST → Option β) : o_b2 (some (a, s)) f = f a s := rfl
theorem q_if {c d : Prop} [Decidable c] [Decidable d] {α : Type} {x y : α} (h : c ↔ d) : (if c then x else y) = if d then x else y := by
  by_cases q : d
  · rw [if_pos q, if_pos (h.mpr q)]
  · rw [if_neg q, if_neg (fun z => q (h.mp z))]
def itr {α : Type} (step : Nat → α → α) : Nat → Nat → α → α
  | _, 0, a => a
  | j, m + 1, a => itr step (j + 1) m (step j a)
theorem itr_hom {α β : Type} {step : Nat → α → α} {step' : Nat → β → β} (f : α → β) : ∀ m j a, (∀ i a, j ≤ i → i < j + m → f (step i a) = step' i (f a)) → f (itr step j m a) = itr step' j m (f a)
  | 0, _, _, _ => rfl
  | m + 1, j, a, h => by rw [itr, itr, itr_hom f m (j + 1) (step j a) (fun i a h1 h2 => h i a (by omega) (by omega)), h j a (by omega) (by omega)]
theorem itr_congr {α : Type} {step step' : Nat → α → α} : ∀ m j a, (∀ i a, j ≤ i → i < j + m → step i a = step' i a) → itr step j m a = itr step' j m a := fun m j a h => itr_hom id m j a h
theorem itr_inv {α : Type} {step : Nat → α → α} (P : Nat → α → Prop) : ∀ m j a, (∀ i a, j ≤ i → i < j + m → P i a → P (i + 1) (step i a)) → P j a → P (j + m) (itr step j m a)
  | 0, _, _, _, h => h
  | m + 1, j, a, hs, h => by
    have := itr_inv P m (j + 1) (step j a) (fun i a h1 h2 => hs i a (by omega) (by omega)) (hs j a (by omega) (by omega) h)
    rw [itr, show j + (m + 1) = j + 1 + m by omega]
    exact this
theorem itr_last {α : Type} (step : Nat → α → α) : ∀ m j a, itr step j (m + 1) a = step (j + m) (itr step j m a)
  | 0, _, _ => rfl
  | m + 1, j, a => by rw [itr, itr_last step m (j + 1) (step j a), itr, show j + 1 + m = j + (m + 1) by omega]
theorem loopN {α β : Type} (L : Nat → Int32 → α → β) (N : Nat) (P : Nat → α → Prop) (step : Nat → α → α) (exit : α → β)
    (hs : ∀ n j a, j < N → P j a → L (n + 1) (nI j) a = L n (nI (j + 1)) (step j a)) (hP : ∀ j a, j < N → P j a → P (j + 1) (step j a)) (he : ∀ n a, P N a → L (n + 1) (nI N) a = exit a) :
    ∀ m j a fu, j + m = N → m < fu → P j a → L fu (nI j) a = exit (itr step j m a) := by
  intro m
  induction m with
  | zero =>
    intro j a fu h1 h2 h3
    obtain ⟨f, rfl⟩ : ∃ f, fu = f + 1 := ⟨fu - 1, by omega⟩
    have : j = N := by omega
    subst this
    exact he f a h3
  | succ m ih =>
    intro j a fu h1 h2 h3
    obtain ⟨f, rfl⟩ : ∃ f, fu = f + 1 := ⟨fu - 1, by omega⟩
    rw [hs f j a (by omega) h3, ih (j + 1) (step j a) f (by omega) (by omega) (hP j a (by omega) h3), itr]
/-- all tables of two notes at once -/
theorem above_X : ∀ a, a < 12 → ∀ b, b < 12 → f_X8_above (nI a) (nI b) = some (nI ((a + 12 - b) % 12)) := by decide +kernel
theorem above_M : ∀ a, a < 12 → ∀ b, b < 12 → f_X11_above (nI a) (nI b) = some (nI ((a + 12 - b) % 12)) := by decide +kernel
theorem mod12 (a : Nat) : a % 12 < 12 := Nat.mod_lt _ (by decide)
/-! length -/
theorem length_enc {g : Nat → Nat} {n : Nat} (h : TN g n) : f_X8_length (enc g n) = some (nI n) := by
  have h8 := h.1
  have key := loopN (α := Unit) (fun fu v _ => f_X8_length_L2 fu (enc g n) v) n (fun _ _ => True) (fun _ a => a) (fun _ => some (nI n))
    (fun f j a hj _ => by
      show f_X8_length_L2 (f + 1) (enc g n) (nI j) = _
      rw [f_X8_length_L2, if_neg (show ¬ (8 : Int32) ≤ nI j from nI_ge (a := j) (b := 8) (by omega) (by decide)), note_enc h (by omega), nt, if_pos hj]
      show (if nI (g j) = -1 then _ else _) = _
      rw [if_neg (by rw [q_m1 (by have := h.2 j hj; omega)]; exact not_false)]
      show f_X8_length_L2 f (enc g n) (nI j + 1) = _
      rw [nI_1])
    (fun _ _ _ _ => trivial)
    (fun f a _ => by
      show f_X8_length_L2 (f + 1) (enc g n) (nI n) = _
      rw [f_X8_length_L2]
      by_cases h9 : n = 8
      · subst h9; rw [if_pos (show (8 : Int32) ≤ nI 8 by decide)]
      · rw [if_neg (show ¬ (8 : Int32) ≤ nI n from nI_ge (a := n) (b := 8) (by omega) (by decide)), note_enc h (by omega), nt, if_neg (Nat.lt_irrefl n)]
        rfl)
  exact key n 0 () fuel (by omega) (by rw [fuel_eq]; omega) trivial
