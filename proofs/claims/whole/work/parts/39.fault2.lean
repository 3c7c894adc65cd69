/-! the first fault -/
def ffN (l : Nat → Nat) : Nat → Nat → Nat
  | 0, p => p
  | m + 1, p => if lokB l p = true then ffN l m (p + 1) else p
theorem ffN_all {l : Nat → Nat} : ∀ m p, ffN l m p = p + m → ∀ q, p ≤ q → q < p + m → lokB l q = true
  | 0, p, _, q, h1, h2 => absurd h1 (by omega)
  | m + 1, p, h, q, h1, h2 => by
    rw [ffN] at h
    by_cases c : lokB l p = true
    · rw [if_pos c] at h
      by_cases e : q = p
      · rw [e]; exact c
      · exact ffN_all m (p + 1) (by omega) q (by omega) (by omega)
    · rw [if_neg c] at h; omega
theorem ffN_le {l : Nat → Nat} : ∀ m p, ffN l m p ≤ p + m
  | 0, _ => Nat.le_refl _
  | m + 1, p => by
    rw [ffN]
    have := ffN_le (l := l) m (p + 1)
    split <;> omega
theorem lok_0 {l : Nat → Nat} (h : lokB l 0 = true) : 50 ≤ l 0 ∧ l 0 ≤ 53 := of_decide_eq_true (show decide (50 ≤ l 0 ∧ l 0 ≤ 53) = true from h)
theorem lok_41 {l : Nat → Nat} {p : Nat} (h : lokB l p = true) : p < 41 := by
  rcases Nat.lt_or_ge p 41 with q | q
  · exact q
  · rw [lokB, if_neg (by omega), if_neg (by omega), if_pos q] at h
    exact absurd h (by decide)
theorem ff_X {σ : ST} {pn : Nat} {l : Nat → Nat} (h : XL σ pn l) : ∀ m p fu, p + m = pn → m < fu → (∀ q, q < p → lokB l q = true) → f_X4_firstFault_L2 σ fu (nI p) = some (nI (ffN l m p)) := by
  have h44 := h.1
  intro m
  induction m with
  | zero =>
    intro p fu h1 h2 h3
    obtain ⟨f, rfl⟩ : ∃ f, fu = f + 1 := ⟨fu - 1, by omega⟩
    rw [f_X4_firstFault_L2, h.2.1, if_pos (nI_le (by omega) (by omega)), ffN, show pn = p by omega]
  | succ m ih =>
    intro p fu h1 h2 h3
    obtain ⟨f, rfl⟩ : ∃ f, fu = f + 1 := ⟨fu - 1, by omega⟩
    rw [f_X4_firstFault_L2, h.2.1, if_neg (nI_ge (by omega) (by omega)), belongs_L h (by omega) (fun z => lok_0 (h3 0 (by omega))), o_bs, ffN]
    by_cases c : lokB l p = true
    · rw [if_pos c, if_pos c, if_neg (by decide), o_bs, nI_1]
      exact ih (p + 1) f (by omega) (by omega) (fun q hq => by
        by_cases e : q = p
        · rw [e]; exact c
        · exact h3 q (by omega))
    · rw [if_neg c, if_neg c, if_pos rfl]
theorem ff_M {σ : ST} {pn : Nat} {l : Nat → Nat} (h : ML σ pn l) : ∀ m p fu, p + m = pn → m + 1 < fu → (∀ q, q < p → lokB l q = true) → f_X11_faultOf_L4 σ fu (nI p) 1 = some (nI (ffN l m p)) := by
  have h44 := h.1
  intro m
  induction m with
  | zero =>
    intro p fu h1 h2 h3
    obtain ⟨f, rfl⟩ : ∃ f, fu = f + 1 := ⟨fu - 1, by omega⟩
    rw [f_X11_faultOf_L4, h.2.1, if_pos (nI_le (by omega) (by omega)), ffN]
  | succ m ih =>
    intro p fu h1 h2 h3
    obtain ⟨f, rfl⟩ : ∃ f, fu = f + 1 := ⟨fu - 1, by omega⟩
    have p41 : p ≤ 41 := by
      rcases Nat.eq_zero_or_pos p with q | q
      · omega
      · have := lok_41 (h3 (p - 1) (by omega)); omega
    rw [f_X11_faultOf_L4, h.2.1, if_neg (nI_ge (by omega) (by omega)), if_neg (by decide), letter_M h (by omega) p41 (fun z => lok_0 (h3 0 (by omega))), o_bs, f_X11_faultOf_B68, ffN]
    by_cases c : lokB l p = true
    · rw [if_pos c, if_pos c, if_neg (by decide), o_bs, o_bs, nI_1]
      exact ih (p + 1) f (by omega) (by omega) (fun q hq => by
        by_cases e : q = p
        · rw [e]; exact c
        · exact h3 q (by omega))
    · obtain ⟨f', rfl⟩ : ∃ f', f = f' + 1 := ⟨f - 1, by omega⟩
      rw [if_neg c, if_neg c, if_pos rfl, o_bs, o_bs, Int32.add_zero, f_X11_faultOf_L4, h.2.1, if_neg (nI_ge (by omega) (by omega)), if_pos rfl]
theorem fault_X {σ : ST} {pn : Nat} {l : Nat → Nat} (h : XL σ pn l) : f_X4_firstFault σ = some (nI (ffN l pn 0)) := by
  have h44 := h.1
  exact ff_X h pn 0 fuel (by omega) (by rw [fuel_eq]; omega) (fun q hq => absurd hq (Nat.not_lt_zero q))
theorem fault_M {σ : ST} {pn : Nat} {l : Nat → Nat} (h : ML σ pn l) : f_X11_faultOf σ = some (nI (ffN l pn 0)) := by
  have h44 := h.1
  exact ff_M h pn 0 fuel (by omega) (by rw [fuel_eq]; omega) (fun q hq => absurd hq (Nat.not_lt_zero q))
theorem sp_fault {t : Nat} {σ : ST} (h : Inv t σ) (a b c : Int32) : SP2 (Inv (t + 1)) σ a b c := by
  have hI := h
  obtain ⟨pn, z, cc, kd, on, ot, rd, wy, h1, h2, h3, h4, h5, h6⟩ := h
  have pl := pl_of h1
  exact ⟨_, by rw [f_X10_fault, fault_X pl.x, o_bs], by rw [f_X11_fault, fault_M pl.m, o_bs], inv_mono t σ hI⟩
