/-! what a street makes of a tune; kinds as the reference counts them: 0 plain, 1 MINOR, 2 BRIDGE, 3 POLICE, 4 PICARDY -/
def low (x t : Nat) : Nat := if (x + 12 - t) % 12 = 4 ∨ (x + 12 - t) % 12 = 9 ∨ (x + 12 - t) % 12 = 11 then (x + 11) % 12 else x
def pic (y t : Nat) : Nat := if (y + 12 - t) % 12 = 3 then (t + 4) % 12 else y
def tr0 (kd t : Nat) (g : Nat → Nat) (k : Nat) : Nat := if kd = 1 ∨ kd = 4 then low (g k) t else if kd = 2 then (t + 12 - g k) % 12 else if kd = 3 then g 0 else (g k + t) % 12
def tr (kd t : Nat) (g : Nat → Nat) (n k : Nat) : Nat := if kd = 4 ∧ k + 1 = n then pic (tr0 kd t g k) t else tr0 kd t g k
/-- the class's number of a kind -/
def xk (kd : Nat) : Nat := if kd = 1 then 2 else if kd = 2 then 0 else if kd = 3 then 6 else if kd = 4 then 5 else 7
theorem low_lt {x t : Nat} (h : x < 12) : low x t < 12 := by
  unfold low; split
  · exact mod12 _
  · exact h
theorem pic_lt {y t : Nat} (h : y < 12) : pic y t < 12 := by
  unfold pic; split
  · exact mod12 _
  · exact h
theorem tr0_lt {kd t k n : Nat} {g : Nat → Nat} (h : TN g n) (hk : k < n) : tr0 kd t g k < 12 := by
  unfold tr0; repeat' split
  · exact low_lt (h.2 k hk)
  · exact mod12 _
  · exact h.2 0 (by omega)
  · exact mod12 _
theorem tr_lt {kd t k n : Nat} {g : Nat → Nat} (h : TN g n) (hk : k < n) : tr kd t g n k < 12 := by
  unfold tr; split
  · exact pic_lt (tr0_lt h hk)
  · exact tr0_lt h hk
theorem tr_TN {kd t n : Nat} {g : Nat → Nat} (h : TN g n) : TN (tr kd t g n) n := ⟨h.1, fun _ hk => tr_lt h hk⟩
theorem rem_add : ∀ a, a < 12 → ∀ b, b < 12 → j_rem (nI a + nI b) 12 = nI ((a + b) % 12) := by decide +kernel
theorem minor_tab : ∀ x, x < 12 → ∀ t, t < 12 → ((f_X8_above (nI x) (nI t)).bind fun r4 => (some (if r4 = 4 then (1 : Int32) else (if r4 = 9 then 1 else (if r4 = 11 then 1 else 0)))).bind fun x5 => f_X2_heard_B41 (nI x) x5) = some (nI (low x t)) := by decide +kernel
theorem pic_tab : ∀ y, y < 12 → ∀ t, t < 12 → f_X5_heard_B26 (nI t) (nI y) 1 = some (nI (pic y t)) := by decide +kernel
theorem low_tabM : ∀ x, x < 12 → ∀ t, t < 12 → f_X11_lowered (nI x) (nI t) = some (nI (low x t)) := by decide +kernel
theorem heard_X {kd t k n : Nat} {g : Nat → Nat} (h : TN g n) (hk : k < n) (ht : t < 12) (hkd : kd < 5) : fd_heard (xk kd) (enc g n) (nI k) (nI t) = some (nI (tr kd t g n k)) := by
  have h8 := h.1
  have hg := h.2 k hk
  have en : f_X8_note (enc g n) (nI k) = some (nI (g k)) := by rw [note_enc h (by omega), nt_in hk]
  have e2 : f_X2_heard (enc g n) (nI k) (nI t) = some (nI (low (g k) t)) := by
    rw [f_X2_heard, en, o_bs]; exact minor_tab _ hg _ ht
  rcases (show kd = 0 ∨ kd = 1 ∨ kd = 2 ∨ kd = 3 ∨ kd = 4 by omega) with rfl | rfl | rfl | rfl | rfl
  · show f_X7_heard (enc g n) (nI k) (nI t) = _
    rw [f_X7_heard, en, o_bs, rem_add _ hg _ ht]; rfl
  · show f_X2_heard (enc g n) (nI k) (nI t) = _
    rw [e2]; rfl
  · show f_X0_heard (enc g n) (nI k) (nI t) = _
    rw [f_X0_heard, en, o_bs, above_X _ ht _ hg, o_bs]; rfl
  · show f_X6_heard (enc g n) (nI k) (nI t) = _
    rw [f_X6_heard, show (0 : Int32) = nI 0 from rfl, note_enc h (by omega), nt_in (by omega), o_bs]; rfl
  · show f_X5_heard (enc g n) (nI k) (nI t) = _
    rw [f_X5_heard, e2, o_bs, nI_1, note_enc h (by omega), o_bs]
    by_cases q : k + 1 = n
    · rw [nt_out (by omega), if_pos rfl, o_bs, pic_tab _ (low_lt hg) _ ht]
      show _ = some (nI (if 4 = 4 ∧ k + 1 = n then pic (low (g k) t) t else _))
      rw [if_pos ⟨rfl, q⟩]
    · have hl := h.2 (k + 1) (by omega)
      rw [nt_in (by omega), if_neg (by rw [q_m1 (by omega)]; exact not_false), o_bs]
      show some (nI (low (g k) t)) = some (nI (if 4 = 4 ∧ k + 1 = n then _ else low (g k) t))
      rw [if_neg (fun z => q z.2)]
theorem loopJ {β : Type} (L : Nat → Nat → β) (N : Nat) (r : β) (hs : ∀ n j, j < N → L (n + 1) j = L n (j + 1)) (he : ∀ n, L (n + 1) N = r) : ∀ m j fu, j + m = N → m < fu → L fu j = r := by
  intro m
  induction m with
  | zero =>
    intro j fu h1 h2
    obtain ⟨f, rfl⟩ : ∃ f, fu = f + 1 := ⟨fu - 1, by omega⟩
    rw [show j = N by omega, he]
  | succ m ih =>
    intro j fu h1 h2
    obtain ⟨f, rfl⟩ : ∃ f, fu = f + 1 := ⟨fu - 1, by omega⟩
    rw [hs f j (by omega), ih (j + 1) f (by omega) (by omega)]
theorem va_up_id {α : Type} (f : Nat → α) (j : Nat) : va_up f j (f j) = f := funext fun k => by
  by_cases q : k = j
  · subst q; exact va_up_self _ _ _
  · exact va_up_ne _ _ q
theorem carry_X {σ : ST} {a kd t n : Nat} {g : Nat → Nat} (h : TN g n) (ht : t < 12) (hkd : kd < 5) (hK : σ.2.2.2.2.1 a = xk kd) : f_X7_carry a σ (enc g n) (nI t) = some (enc (tr kd t g n) n) := by
  have h8 := h.1
  rw [f_X7_carry]
  refine loopJ (fun fu j => f_X7_carry_L6 a σ fu (enc g n) (nI t) (enc (tr kd t g n) j) (nI j)) n _ (fun f j hj => ?_) (fun f => ?_) n 0 fuel (by omega) (by rw [fuel_eq]; omega)
  · show f_X7_carry_L6 a σ (f + 1) (enc g n) (nI t) (enc (tr kd t g n) j) (nI j) = _
    have hg := h.2 j hj
    have hT : TN (tr kd t g n) j := ⟨by omega, fun k hk => tr_lt h (by omega)⟩
    rw [f_X7_carry_L6, if_neg (show ¬ (8 : Int32) ≤ nI j from nI_ge (a := j) (b := 8) (by omega) (by decide)), note_enc h (by omega), nt_in hj, o_bs, if_neg (by rw [q_m1 (by omega)]; exact not_false), hK, heard_X h hj ht hkd, o_bs, with_end hT (by omega) (tr_lt h hj), o_bs, o_bs, nI_1]
    rw [va_up_id]
  · show f_X7_carry_L6 a σ (f + 1) (enc g n) (nI t) (enc (tr kd t g n) n) (nI n) = _
    rw [f_X7_carry_L6]
    by_cases q : n = 8
    · rw [if_pos (by rw [q]; decide)]
    · rw [if_neg (show ¬ (8 : Int32) ≤ nI n from nI_ge (a := n) (b := 8) (by omega) (by decide)), note_enc h (by omega), nt_out (by omega), o_bs, if_pos rfl]
/-! the reference's go -/
theorem uA_1 (σ : ST) (o : Nat) (f : Nat → Int32) : (uA σ o f).1 o = f := va_up_self _ _ _
theorem uA_n (σ : ST) (o : Nat) (f : Nat → Int32) {o' : Nat} (h : o' ≠ o) : (uA σ o f).1 o' = σ.1 o' := va_up_ne _ _ h
theorem uA_uI (σ : ST) (o k : Nat) (f : Nat → Int32) (x : Int32) : uI (uA σ o f) o k x = uA σ o (va_up f k x) := by
  unfold uI
  rw [uA_1]
  unfold uA
  rw [bx_uu]
theorem uI_uA (σ : ST) (o k : Nat) (x : Int32) : uI σ o k x = uA σ o (va_up (σ.1 o) k x) := rfl
theorem uA_self (σ : ST) (o : Nat) (f : Nat → Int32) (h : ∀ k, f k = σ.1 o k) : uA σ o f = σ := by
  unfold uA
  rw [show f = σ.1 o from funext h]
  have : va_up σ.1 o (σ.1 o) = σ.1 := funext fun j => by by_cases q : j = o <;> simp [va_up, q]
  rw [this]
/-- a row, its first j places new -/
def mx (f : Nat → Int32) (T : Nat → Nat) (j : Nat) : Nat → Int32 := fun k => if k < j then nI (T k) else f k
theorem mx_up (f : Nat → Int32) (T : Nat → Nat) (j : Nat) : va_up (mx f T j) j (nI (T j)) = mx f T (j + 1) := by
  funext k
  by_cases q : k = j
  · subst q; rw [va_up_self, mx, if_pos (by omega)]
  · rw [va_up_ne _ _ q, mx, mx]
    by_cases q2 : k < j
    · rw [if_pos q2, if_pos (by omega)]
    · rw [if_neg q2, if_neg (by omega)]
theorem go_M {σ : ST} {o kd t n : Nat} {g : Nat → Nat} (h : TN g n) (hn : 0 < n) (hr : RW σ o g n) (ht : t < 12) (hkd : kd < 5) : f_X11_go o 8 (nI kd) (nI t) (nI n) σ = some (uA σ o (mx (σ.1 o) (tr kd t g n) n)) := by
  have h8 := h.1
  rw [f_X11_go]
  have e0 : σ = uA σ o (mx (σ.1 o) (tr0 kd t g) 0) := (uA_self σ o _ (fun k => by rw [mx, if_neg (by omega)])).symm
  have key := loopJ (fun fu j => f_X11_go_L3 o 8 fu (nI kd) (nI t) (nI n) (nI j) (uA σ o (mx (σ.1 o) (tr0 kd t g) j))) n (some (uA σ o (mx (σ.1 o) (tr kd t g n) n))) (fun f j hj => ?_) (fun f => ?_) n 0 fuel (by omega) (by rw [fuel_eq]; omega)
  · rw [← e0] at key
    exact key
  · show f_X11_go_L3 o 8 (f + 1) (nI kd) (nI t) (nI n) (nI j) (uA σ o (mx (σ.1 o) (tr0 kd t g) j)) = _
    have hg := h.2 j hj
    have ej : mx (σ.1 o) (tr0 kd t g) j (nI j).toNatClampNeg = nI (g j) := by rw [q_cl (by omega), mx, if_neg (Nat.lt_irrefl j), hr j hj]
    have hi : inB (nI j) 8 := by rw [q_in (by omega)]; omega
    have h00 : inB (0 : Int32) 8 := by decide
    rw [f_X11_go_L3, if_neg (nI_ge hj (by omega)), if_pos hi, uA_1, ej, o_bs]
    rcases (show kd = 0 ∨ kd = 1 ∨ kd = 2 ∨ kd = 3 ∨ kd = 4 by omega) with rfl | rfl | rfl | rfl | rfl
    · rw [if_neg (by decide), if_neg (by decide), if_neg (by decide), if_neg (by decide), if_pos hi, rem_add _ hg _ ht, q_cl (by omega), uA_uI, o_bs, o_bs, nI_1]
      exact congrArg (fun z => f_X11_go_L3 o 8 f _ _ _ _ (uA σ o z)) (mx_up (σ.1 o) (tr0 0 t g) j)
    · rw [if_pos (by decide), low_tabM _ hg _ ht, o_bs, if_pos hi, q_cl (by omega), uA_uI, o_bs, o_bs, nI_1]
      exact congrArg (fun z => f_X11_go_L3 o 8 f _ _ _ _ (uA σ o z)) (mx_up (σ.1 o) (tr0 1 t g) j)
    · rw [if_neg (by decide), if_pos (by decide), above_M _ ht _ hg, o_bs, if_pos hi, q_cl (by omega), uA_uI, o_bs, o_bs, nI_1]
      exact congrArg (fun z => f_X11_go_L3 o 8 f _ _ _ _ (uA σ o z)) (mx_up (σ.1 o) (tr0 2 t g) j)
    · have e3 : mx (σ.1 o) (tr0 3 t g) j 0 = nI (g 0) := by
        rw [mx]; by_cases q : 0 < j
        · rw [if_pos q]; rfl
        · rw [if_neg q, hr 0 hn]
      rw [if_neg (by decide), if_neg (by decide), if_pos (by decide), if_pos h00, if_pos hi, e3, q_cl (by omega), uA_uI, o_bs, o_bs, nI_1]
      exact congrArg (fun z => f_X11_go_L3 o 8 f _ _ _ _ (uA σ o z)) (mx_up (σ.1 o) (tr0 3 t g) j)
    · rw [if_neg (by decide), if_neg (by decide), if_neg (by decide), if_pos (by decide), low_tabM _ hg _ ht, o_bs, if_pos hi, q_cl (by omega), uA_uI, o_bs, o_bs, nI_1]
      exact congrArg (fun z => f_X11_go_L3 o 8 f _ _ _ _ (uA σ o z)) (mx_up (σ.1 o) (tr0 4 t g) j)
  · show f_X11_go_L3 o 8 (f + 1) (nI kd) (nI t) (nI n) (nI n) (uA σ o (mx (σ.1 o) (tr0 kd t g) n)) = _
    have e1 : nI n - 1 = nI (n - 1) := pk_sub (b := 1) hn
    have hi : inB (nI (n - 1)) 8 := by rw [q_in (by omega)]; omega
    have hl := tr0_lt (kd := kd) (t := t) h (show n - 1 < n by omega)
    have ex : mx (σ.1 o) (tr0 kd t g) n (nI (n - 1)).toNatClampNeg = nI (tr0 kd t g (n - 1)) := by rw [q_cl (by omega), mx, if_pos (by omega)]
    rw [f_X11_go_L3, if_pos (nI_le (Nat.le_refl n) (by omega)), f_X11_go_B101, e1, if_pos hi, uA_1, ex, o_bs]
    have same : ∀ k, k < n → (kd = 4 ∧ k + 1 = n → pic (tr0 kd t g k) t = tr0 kd t g k) → tr kd t g n k = tr0 kd t g k := fun k _ z => by
      unfold tr; split
      · rename_i q; exact z q
      · rfl
    by_cases q4 : kd = 4
    · subst q4
      rw [if_pos (by decide), above_M _ hl _ ht, o_bs]
      by_cases q3 : (tr0 4 t g (n - 1) + 12 - t) % 12 = 3
      · have ep : pic (tr0 4 t g (n - 1)) t = (t + 4) % 12 := by rw [pic, if_pos q3]
        have e5 : j_rem (nI (tr0 4 t g (n - 1)) + 1) 12 = nI ((t + 4) % 12) := by
          rw [show (1 : Int32) = nI 1 from rfl, rem_add _ hl _ (by decide)]
          congr 1; omega
        rw [if_pos (by rw [q3]; rfl), if_pos hi, e5, q_cl (by omega), uA_uI, o_bs]
        refine congrArg some (congrArg (uA σ o) (funext fun k => ?_))
        by_cases qk : k = n - 1
        · subst qk; rw [va_up_self, mx, if_pos (by omega), tr, if_pos ⟨rfl, by omega⟩, ep]
        · rw [va_up_ne _ _ qk, mx, mx]
          by_cases qn : k < n
          · rw [if_pos qn, if_pos qn, tr, if_neg (fun z => by omega)]
          · rw [if_neg qn, if_neg qn]
      · rw [if_neg (fun z => q3 (by
          have l := mod12 (tr0 4 t g (n - 1) + 12 - t)
          exact (nI_eq (b := 3) (by omega) (by decide)).mp z))]
        refine congrArg some (congrArg (uA σ o) (funext fun k => ?_))
        rw [mx, mx]
        by_cases qn : k < n
        · rw [if_pos qn, if_pos qn, same k qn (fun z => by rw [show k = n - 1 by omega, pic, if_neg q3])]
        · rw [if_neg qn, if_neg qn]
    · rw [if_neg (show ¬ nI kd = 4 from fun z => q4 ((nI_eq (b := 4) (by omega) (by decide)).mp z))]
      refine congrArg some (congrArg (uA σ o) (funext fun k => ?_))
      rw [mx, mx]
      by_cases qn : k < n
      · rw [if_pos qn, if_pos qn, same k qn (fun z => absurd z.1 q4)]
      · rw [if_neg qn, if_neg qn]
