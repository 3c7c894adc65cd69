/-! fault(): which letter a city has at a place -/
def lokB (l : Nat → Nat) (p : Nat) : Bool := if p = 0 then decide (50 ≤ l 0 ∧ l 0 ≤ 53) else if p = 1 then decide (l 1 = 59) else if 41 ≤ p then false else if (p - 2) % 5 = 0 then decide (l p = 115 ∨ l p = 109 ∨ l p = 98 ∨ l p = 112 ∨ l p = 105) else if (p - 2) % 5 = 1 then decide (48 ≤ l p ∧ l p < l 0) else if (p - 2) % 5 = 2 then decide ((48 ≤ l p ∧ l p < l 0) ∧ l p ≠ l (p - 1)) else if (p - 2) % 5 = 3 then decide (isn (l p)) else decide (l p = 44)
def kx (c : Nat) : Int32 := if c = 115 then 0 else if c = 109 then 1 else if c = 98 then 2 else if c = 112 then 3 else if c = 105 then 4 else -1
theorem ixL (f : Nat) (x : Int32) : f_J1_indexOfChar_4cfef_L7 (f + 6) 5 x 0 = some (if 115 = x then 0 else if 109 = x then 1 else if 98 = x then 2 else if 112 = x then 3 else if 105 = x then 4 else -1) := by
  rw [f_J1_indexOfChar_4cfef_L7, if_neg (by decide), if_pos (by decide), show bK (0 : Int32).toNatClampNeg = 115 from rfl]
  by_cases q : (115 : Int32) = x
  · rw [if_pos q, if_pos q]
  rw [if_neg q, if_neg q, o_bs, show (0 + 1 : Int32) = 1 from rfl, f_J1_indexOfChar_4cfef_L7, if_neg (by decide), if_pos (by decide), show bK (1 : Int32).toNatClampNeg = 109 from rfl]
  by_cases q : (109 : Int32) = x
  · rw [if_pos q, if_pos q]
  rw [if_neg q, if_neg q, o_bs, show (1 + 1 : Int32) = 2 from rfl, f_J1_indexOfChar_4cfef_L7, if_neg (by decide), if_pos (by decide), show bK (2 : Int32).toNatClampNeg = 98 from rfl]
  by_cases q : (98 : Int32) = x
  · rw [if_pos q, if_pos q]
  rw [if_neg q, if_neg q, o_bs, show (2 + 1 : Int32) = 3 from rfl, f_J1_indexOfChar_4cfef_L7, if_neg (by decide), if_pos (by decide), show bK (3 : Int32).toNatClampNeg = 112 from rfl]
  by_cases q : (112 : Int32) = x
  · rw [if_pos q, if_pos q]
  rw [if_neg q, if_neg q, o_bs, show (3 + 1 : Int32) = 4 from rfl, f_J1_indexOfChar_4cfef_L7, if_neg (by decide), if_pos (by decide), show bK (4 : Int32).toNatClampNeg = 105 from rfl]
  by_cases q : (105 : Int32) = x
  · rw [if_pos q, if_pos q]
  rw [if_neg q, if_neg q, o_bs, show (4 + 1 : Int32) = 5 from rfl, f_J1_indexOfChar_4cfef_L7, if_pos (by decide)]
theorem can_tab : ∀ c, c < 127 → f_J1_canEncode_9a6ad (j_i2c (nI c)) = some 1 := by decide +kernel
theorem kx_tab : ∀ c, c < 127 → (if 115 = (j_i2c (nI c)).toInt8.toInt32 then (0 : Int32) else if 109 = (j_i2c (nI c)).toInt8.toInt32 then 1 else if 98 = (j_i2c (nI c)).toInt8.toInt32 then 2 else if 112 = (j_i2c (nI c)).toInt8.toInt32 then 3 else if 105 = (j_i2c (nI c)).toInt8.toInt32 then 4 else -1) = kx c := by decide +kernel
theorem ix_tab {c : Nat} (h : c < 127) : f_J0_indexOf_0f7a4 (j_i2c (nI c)) = some (kx c) := by
  have e1 : f_J0_isLatin1_aae02 = some 1 := rfl
  have e2 : f_J0_length_8abf5 = some 5 := rfl
  have e3 : (if (0 : Int32) < 0 then (0 : Int32) else 0) = 0 := rfl
  have e4 : (if (5 : Int32) < 5 then (5 : Int32) else 5) = 5 := rfl
  rw [f_J0_indexOf_0f7a4, f_J0_indexOf_7cf53, e1, o_bs, if_neg (by decide), e2, o_bs, f_J1_indexOf_4cfef, can_tab c h, o_bs, if_neg (by decide), o_bs, o_bs, e3, e4, if_pos (by decide), f_J1_indexOfChar_4cfef, o_bs, show fuel = 16777210 + 6 from fuel_eq, ixL, kx_tab c h]
  rfl
theorem kb_tab : ∀ c, c < 127 → f_X11_kindBy (nI c) = some (kx c) := by decide +kernel
theorem kx_neg : ∀ c, c < 127 → ((kx c < 0) ↔ ¬ (c = 115 ∨ c = 109 ∨ c = 98 ∨ c = 112 ∨ c = 105)) := by decide +kernel
theorem kx_m1 : ∀ c, c < 127 → ((kx c = -1) ↔ ¬ (c = 115 ∨ c = 109 ∨ c = 98 ∨ c = 112 ∨ c = 105)) := by decide +kernel
theorem d0_tab : ∀ c, c < 127 → (if nI c - 48 < 2 then some (0 : Int32) else if 5 < nI c - 48 then some 0 else some 1) = some (if decide (50 ≤ c ∧ c ≤ 53) = true then 1 else 0) := by decide +kernel
theorem d0M_tab : ∀ c, c < 127 → f_X11_in (nI c).toInt64 50 53 = some (if decide (50 ≤ c ∧ c ≤ 53) = true then 1 else 0) := by decide +kernel
theorem crn_tab : ∀ k, k < 4 → ∀ c, c < 127 → (if nI c - 48 < 0 then some (0 : Int32) else (some (nI (50 + k) - 48)).bind fun r3 => (if r3 ≤ nI c - 48 then some 0 else some 1)) = some (if 48 ≤ c ∧ c < 50 + k then 1 else 0) := by decide +kernel
theorem coM_tab : ∀ k, k < 4 → ∀ c, c < 127 → f_X11_in (nI c).toInt64 48 (nI (50 + k) - 1).toInt64 = some (if 48 ≤ c ∧ c < 50 + k then 1 else 0) := by decide +kernel
theorem sub48 {x y : Int32} : (x - 48 = y - 48) ↔ x = y := by
  constructor
  · intro h
    have := congrArg (fun w => w + 48) h
    simpa using this
  · intro h; rw [h]
/-- the page, as the class has it and as the reference has it -/
def XL (σ : ST) (pn : Nat) (l : Nat → Nat) : Prop := pn ≤ 44 ∧ σ.1 1 1 = nI pn ∧ ∀ p, p < pn → l p < 127 ∧ σ.1 2 p = nI (l p)
def ML (σ : ST) (pn : Nat) (l : Nat → Nat) : Prop := pn ≤ 44 ∧ σ.1 20 1 = nI pn ∧ ∀ p, p < pn → l p < 127 ∧ σ.1 21 p = nI (l p)
theorem PL.x {σ : ST} {pn : Nat} {l : Nat → Nat} (h : PL σ pn l) : XL σ pn l := ⟨h.1, h.2.1, fun p hp => by have := h.2.2.2 p hp; exact ⟨by omega, this.2.2.1⟩⟩
theorem PL.m {σ : ST} {pn : Nat} {l : Nat → Nat} (h : PL σ pn l) : ML σ pn l := ⟨h.1, h.2.2.1, fun p hp => by have := h.2.2.2 p hp; exact ⟨by omega, this.2.2.2⟩⟩
theorem at_L {σ : ST} {pn : Nat} {l : Nat → Nat} (h : XL σ pn l) {p : Nat} (hp : p < pn) : f_X4_at σ (nI p) = some (nI (l p)) := by
  obtain ⟨h1, h2, h4⟩ := h
  rw [f_X4_at, if_neg (nI_pos (by omega)), h2, if_neg (nI_ge hp (by omega)), if_neg (show ¬ (44 : Int32) ≤ nI p from nI_ge (a := p) (b := 44) (by omega) (by decide)), if_pos (by rw [q_in (by omega)]; omega), q_cl (by omega), (h4 p hp).2]
theorem noteAt_L {σ : ST} {pn : Nat} {l : Nat → Nat} (h : XL σ pn l) {p : Nat} (hp : p < pn) : f_X4_noteAt σ (nI p) = some (if isn (l p) then nI (l p - 97) else -1) := by
  rw [f_X4_noteAt, at_L h hp, o_bs]
  exact note_tab _ (h.2.2 p hp).1
theorem digit_L {σ : ST} {pn : Nat} {l : Nat → Nat} (h : XL σ pn l) {p : Nat} (hp : p < pn) : f_X4_digitAt σ (nI p) = some (nI (l p) - 48) := by
  rw [f_X4_digitAt, at_L h hp, o_bs]
theorem corner_L {σ : ST} {pn : Nat} {l : Nat → Nat} (h : XL σ pn l) {c : Nat} (hp : 0 < pn) (h0 : 50 ≤ l 0 ∧ l 0 ≤ 53) (hc : c < 127) : f_X4_isCorner σ (nI c - 48) = some (if 48 ≤ c ∧ c < l 0 then 1 else 0) := by
  obtain ⟨k, hk⟩ : ∃ k, l 0 = 50 + k := ⟨l 0 - 50, by omega⟩
  rw [f_X4_isCorner, show (0 : Int32) = nI 0 from rfl, digit_L h hp, hk]
  exact crn_tab k (by omega) c hc
theorem corner_M {σ : ST} {pn : Nat} {l : Nat → Nat} (h : ML σ pn l) {c : Nat} (hp : 0 < pn) (h0 : 50 ≤ l 0 ∧ l 0 ≤ 53) (hc : c < 127) : f_X11_isCorner σ (nI c) = some (if 48 ≤ c ∧ c < l 0 then 1 else 0) := by
  obtain ⟨k, hk⟩ : ∃ k, l 0 = 50 + k := ⟨l 0 - 50, by omega⟩
  rw [f_X11_isCorner, (h.2.2 0 hp).2, hk, coM_tab k (by omega) c hc, o_bs]
  by_cases q : 48 ≤ c ∧ c < 50 + k
  · rw [if_pos q, if_pos (by decide)]
  · rw [if_neg q, if_pos (by decide)]
theorem rem5 {p : Nat} (h : 2 ≤ p) (h2 : p < 2 ^ 30) : j_rem (nI p - 2) 5 = nI ((p - 2) % 5) := by
  rw [show nI p - 2 = nI (p - 2) from pk_sub (b := 2) h]
  exact q_rem (d := 5) (by omega) (by decide) (by decide)
theorem belongs_L {σ : ST} {pn : Nat} {l : Nat → Nat} (h : XL σ pn l) {p : Nat} (hp : p < pn) (h0 : 1 ≤ p → 50 ≤ l 0 ∧ l 0 ≤ 53) : f_X4_belongs σ (nI p) = some (if lokB l p = true then 1 else 0) := by
  have h44 := h.1
  have hl := (h.2.2 p hp).1
  rw [f_X4_belongs]
  by_cases q0 : p = 0
  · subst q0
    rw [if_pos (by decide), show lokB l 0 = decide (50 ≤ l 0 ∧ l 0 ≤ 53) from rfl, show (0 : Int32) = nI 0 from rfl, digit_L h hp, o_bs, o_bs]
    exact d0_tab _ hl
  rw [if_neg (nI_ne0 (by omega) (by omega))]
  have h0 := h0 (by omega)
  by_cases q1 : p = 1
  · subst q1
    rw [if_pos (by decide), show lokB l 1 = decide (l 1 = 59) from rfl, show (1 : Int32) = nI 1 from rfl, at_L h hp, o_bs, q_if (show nI (l 1) = 59 ↔ l 1 = 59 from nI_eq (b := 59) (by omega) (by decide))]
    by_cases q : l 1 = 59
    · rw [if_pos q, if_pos (decide_eq_true q)]
    · rw [if_neg q, if_neg (fun z => q (of_decide_eq_true z))]
  rw [if_neg (show ¬ nI p = 1 from fun z => q1 ((nI_eq (b := 1) (by omega) (by decide)).mp z))]
  have eL : ¬ 41 ≤ p → lokB l p = if (p - 2) % 5 = 0 then decide (l p = 115 ∨ l p = 109 ∨ l p = 98 ∨ l p = 112 ∨ l p = 105) else if (p - 2) % 5 = 1 then decide (48 ≤ l p ∧ l p < l 0) else if (p - 2) % 5 = 2 then decide ((48 ≤ l p ∧ l p < l 0) ∧ l p ≠ l (p - 1)) else if (p - 2) % 5 = 3 then decide (isn (l p)) else decide (l p = 44) := fun q41 => by rw [lokB, if_neg q0, if_neg q1, if_neg q41]
  have eF : 41 ≤ p → lokB l p = false := fun q41 => by rw [lokB, if_neg q0, if_neg q1, if_pos q41]
  by_cases q41 : 41 ≤ p
  · rw [if_neg (show ¬ nI p < 41 from nI_nlt (b := 41) q41 (by omega)), eF q41]; rfl
  rw [if_pos (show nI p < 41 from nI_lt (a := p) (b := 41) (by omega) (by decide)), rem5 (by omega) (by omega)]
  have eL := eL q41
  have e1 : nI p - 1 = nI (p - 1) := pk_sub (b := 1) (by omega)
  have hp1 := (h.2.2 (p - 1) (by omega)).1
  obtain ⟨r, hr⟩ : ∃ r, r = (p - 2) % 5 := ⟨_, rfl⟩
  have r5 : r < 5 := by omega
  rw [← hr] at eL ⊢
  rcases (show r = 0 ∨ r = 1 ∨ r = 2 ∨ r = 3 ∨ r = 4 by omega) with rfl | rfl | rfl | rfl | rfl
  · rw [show lokB l p = decide (l p = 115 ∨ l p = 109 ∨ l p = 98 ∨ l p = 112 ∨ l p = 105) from eL, if_pos (by decide), at_L h hp, o_bs, ix_tab hl, o_bs, q_if (kx_neg _ hl)]
    by_cases q : l p = 115 ∨ l p = 109 ∨ l p = 98 ∨ l p = 112 ∨ l p = 105
    · rw [if_neg (fun z => z q), if_pos (decide_eq_true q)]
    · rw [if_pos q, if_neg (fun z => q (of_decide_eq_true z))]
  · rw [show lokB l p = decide (48 ≤ l p ∧ l p < l 0) from eL, if_neg (by decide), if_pos (by decide), digit_L h hp, o_bs, corner_L h (by omega) h0 hl, o_bs]
    by_cases q : 48 ≤ l p ∧ l p < l 0
    · rw [if_pos q, if_pos (by decide), if_pos (decide_eq_true q)]
    · rw [if_neg q, if_pos (by decide), if_neg (fun z => q (of_decide_eq_true z))]
  · rw [show lokB l p = decide ((48 ≤ l p ∧ l p < l 0) ∧ l p ≠ l (p - 1)) from eL, if_neg (by decide), if_neg (by decide), if_pos (by decide), digit_L h hp, o_bs, corner_L h (by omega) h0 hl, o_bs]
    by_cases q : 48 ≤ l p ∧ l p < l 0
    · rw [if_pos q, if_neg (by decide), o_bs, e1, digit_L h (by omega), o_bs, q_if sub48, q_if (nI_eq (by omega) (by omega))]
      by_cases q2 : l p = l (p - 1)
      · rw [if_pos q2, if_neg (fun z => (of_decide_eq_true z).2 q2)]
      · rw [if_neg q2, if_pos (decide_eq_true ⟨q, q2⟩)]
    · rw [if_neg q, if_pos rfl, if_neg (fun z => q (of_decide_eq_true z).1)]
  · rw [show lokB l p = decide (isn (l p)) from eL, if_neg (by decide), if_neg (by decide), if_neg (by decide), if_pos (by decide), noteAt_L h hp, o_bs]
    by_cases q : isn (l p)
    · rw [if_pos q, if_neg (by rw [q_m1 (by omega)]; exact not_false), if_pos (decide_eq_true q)]
    · rw [if_neg q, if_pos rfl, if_neg (fun z => q (of_decide_eq_true z))]
  · rw [show lokB l p = decide (l p = 44) from eL, if_neg (by decide), if_neg (by decide), if_neg (by decide), if_neg (by decide), at_L h hp, o_bs, q_if (show nI (l p) = 44 ↔ l p = 44 from nI_eq (b := 44) (by omega) (by decide))]
    by_cases q : l p = 44
    · rw [if_pos q, if_pos (decide_eq_true q)]
    · rw [if_neg q, if_neg (fun z => q (of_decide_eq_true z))]
theorem letter_M {σ : ST} {pn : Nat} {l : Nat → Nat} (h : ML σ pn l) {p : Nat} (hp : p < pn) (p41 : p ≤ 41) (h0 : 1 ≤ p → 50 ≤ l 0 ∧ l 0 ≤ 53) : (if nI p = 0 then (f_X11_in ((σ.1 21 0).toInt64) 50 53).bind fun r10 => some r10 else (if nI p = 1 then (if (σ.1 21 1) = 59 then some 1 else some 0) else (f_X11_isStreetLetter σ (nI p)).bind fun r7 => some r7)) = some (if lokB l p = true then 1 else 0) := by
  have h44 := h.1
  have hl := (h.2.2 p hp).1
  by_cases q0 : p = 0
  · subst q0
    rw [if_pos (by decide), show lokB l 0 = decide (50 ≤ l 0 ∧ l 0 ≤ 53) from rfl, (h.2.2 0 hp).2, d0M_tab _ hl]; rfl
  rw [if_neg (nI_ne0 (by omega) (by omega))]
  have h0 := h0 (by omega)
  by_cases q1 : p = 1
  · subst q1
    rw [if_pos (by decide), show lokB l 1 = decide (l 1 = 59) from rfl, (h.2.2 1 hp).2, q_if (show nI (l 1) = 59 ↔ l 1 = 59 from nI_eq (b := 59) (by omega) (by decide))]
    by_cases q : l 1 = 59
    · rw [if_pos q, if_pos (decide_eq_true q)]
    · rw [if_neg q, if_neg (fun z => q (of_decide_eq_true z))]
  rw [if_neg (show ¬ nI p = 1 from fun z => q1 ((nI_eq (b := 1) (by omega) (by decide)).mp z))]
  have eL : ¬ 41 ≤ p → lokB l p = if (p - 2) % 5 = 0 then decide (l p = 115 ∨ l p = 109 ∨ l p = 98 ∨ l p = 112 ∨ l p = 105) else if (p - 2) % 5 = 1 then decide (48 ≤ l p ∧ l p < l 0) else if (p - 2) % 5 = 2 then decide ((48 ≤ l p ∧ l p < l 0) ∧ l p ≠ l (p - 1)) else if (p - 2) % 5 = 3 then decide (isn (l p)) else decide (l p = 44) := fun q41 => by rw [lokB, if_neg q0, if_neg q1, if_neg q41]
  have eF : 41 ≤ p → lokB l p = false := fun q41 => by rw [lokB, if_neg q0, if_neg q1, if_pos q41]
  have e1 : nI p - 1 = nI (p - 1) := pk_sub (b := 1) (by omega)
  have hp1 := (h.2.2 (p - 1) (by omega)).1
  have i44 : inB (nI p) 44 := by rw [q_in (by omega)]; omega
  have i44' : inB (nI (p - 1)) 44 := by rw [q_in (by omega)]; omega
  rw [f_X11_isStreetLetter, if_pos i44, q_cl (by omega), (h.2.2 p hp).2, o_bs, rem5 (by omega) (by omega)]
  obtain ⟨r, hr⟩ : ∃ r, r = (p - 2) % 5 := ⟨_, rfl⟩
  have r5 : r < 5 := by omega
  rw [← hr]
  rw [← hr] at eL
  by_cases q41 : 41 ≤ p
  · have : r = 4 := by omega
    subst this
    rw [eF q41, if_neg (by decide), if_neg (by decide), if_neg (by decide), if_neg (by decide), if_pos (show (41 : Int32) ≤ nI p from nI_le (a := 41) q41 (by omega))]
    by_cases q : nI (l p) = 44
    · rw [if_pos q]; rfl
    · rw [if_neg q]; rfl
  have eL := eL q41
  rcases (show r = 0 ∨ r = 1 ∨ r = 2 ∨ r = 3 ∨ r = 4 by omega) with rfl | rfl | rfl | rfl | rfl
  · rw [show lokB l p = decide (l p = 115 ∨ l p = 109 ∨ l p = 98 ∨ l p = 112 ∨ l p = 105) from eL, if_pos (by decide), kb_tab _ hl, o_bs, q_if (kx_m1 _ hl)]
    by_cases q : l p = 115 ∨ l p = 109 ∨ l p = 98 ∨ l p = 112 ∨ l p = 105
    · rw [if_neg (fun z => z q), if_pos (decide_eq_true q)]; rfl
    · rw [if_pos q, if_neg (fun z => q (of_decide_eq_true z))]; rfl
  · rw [show lokB l p = decide (48 ≤ l p ∧ l p < l 0) from eL, if_neg (by decide), if_pos (by decide), corner_M h (by omega) h0 hl, o_bs]
    by_cases q : 48 ≤ l p ∧ l p < l 0
    · rw [if_pos q, if_pos (by decide), if_pos (decide_eq_true q)]; rfl
    · rw [if_neg q, if_pos (by decide), if_neg (fun z => q (of_decide_eq_true z))]; rfl
  · rw [show lokB l p = decide ((48 ≤ l p ∧ l p < l 0) ∧ l p ≠ l (p - 1)) from eL, if_neg (by decide), if_neg (by decide), if_pos (by decide), corner_M h (by omega) h0 hl, o_bs]
    by_cases q : 48 ≤ l p ∧ l p < l 0
    · rw [if_pos q, if_neg (by decide), e1, if_pos i44', q_cl (by omega), (h.2.2 (p - 1) (by omega)).2, q_if (nI_eq (by omega) (by omega))]
      by_cases q2 : l p = l (p - 1)
      · rw [if_pos q2, if_neg (fun z => (of_decide_eq_true z).2 q2)]; rfl
      · rw [if_neg q2, if_pos (decide_eq_true ⟨q, q2⟩)]; rfl
    · rw [if_neg q, if_pos rfl, if_neg (fun z => q (of_decide_eq_true z).1)]; rfl
  · rw [show lokB l p = decide (isn (l p)) from eL, if_neg (by decide), if_neg (by decide), if_neg (by decide), if_pos (by decide), in97_tab _ hl, o_bs]
    by_cases q : isn (l p)
    · rw [if_pos q, if_pos (by decide), if_pos (decide_eq_true q)]; rfl
    · rw [if_neg q, if_pos (by decide), if_neg (fun z => q (of_decide_eq_true z))]; rfl
  · rw [show lokB l p = decide (l p = 44) from eL, if_neg (by decide), if_neg (by decide), if_neg (by decide), if_neg (by decide), q_if (show nI (l p) = 44 ↔ l p = 44 from nI_eq (b := 44) (by omega) (by decide)), if_neg (show ¬ (41 : Int32) ≤ nI p from nI_ge (a := p) (b := 41) (by omega) (by decide))]
    by_cases q : l p = 44
    · rw [if_pos q, if_pos (decide_eq_true q)]; rfl
    · rw [if_neg q, if_neg (fun z => q (of_decide_eq_true z))]; rfl
