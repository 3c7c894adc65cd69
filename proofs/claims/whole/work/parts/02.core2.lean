/-- whether an index is in -/
abbrev inB (i : Int32) (n : Nat) : Prop := ¬ (i < 0 ∨ n ≤ i.toNatClampNeg)
/-- enough for every loop; closed, so that nobody unrolls it -/
noncomputable def fuel : Nat := Classical.choose (⟨16777216, rfl⟩ : ∃ n : Nat, n = 16777216)
theorem fuel_eq : fuel = 16777216 := Classical.choose_spec (⟨16777216, rfl⟩ : ∃ n : Nat, n = 16777216)
def o_b2 {α β : Type} (x : Option (α × ST)) (f : α → ST → Option β) : Option β := x.bind fun q => f q.1 q.2
theorem o_bind2 {α β : Type} {x : Option (α × ST)} {f : α → ST → Option β} {y : β} (h : o_b2 x f = some y) : ∃ a s, x = some (a, s) ∧ f a s = some y := by
  obtain ⟨q, h1, h2⟩ := Option.bind_eq_some_iff.mp h
  exact ⟨q.1, q.2, h1, h2⟩
theorem o_let {α β : Type} {a : α} {f : α → Option β} {y : β} (h : (some a).bind f = some y) : ∃ x, a = x ∧ f x = some y := ⟨a, rfl, h⟩
theorem o_el0 {α β : Type} {a : Option β} {f : α → Option β} {y : β} (h : Option.elim none a f = some y) : a = some y := h
theorem o_el1 {α β : Type} {a : Option β} {f : α → Option β} {x : α} {y : β} (h : Option.elim (some x) a f = some y) : f x = some y := h
theorem tb {w : Cond} (i : Nat) (h : tables_1[i]? = some w) : w ∈ lw_tbl := List.mem_append_right _ (List.mem_of_getElem? h)
theorem ts {w : Cond} (i : Nat) (h : (k2_sels lw_privs)[i]? = some w) : w ∈ lw_tbl := List.mem_append_left _ (List.mem_of_getElem? h)
/-- an array of n ints among the fixed cells -/
def ARY (o n : Nat) : Prop := o < 40 ∧ ∀ (E : EV) (τ : ST), wc E τ o = .inl (E.2.2.1.1, n, .inl (τ.1 o))
section RULES2
variable {Γ : CX} {l : Launch} {cc : ByteArray} {nL : Nat} {own : String} {R : Room} {E : EV} {σ : ST} {pc : Nat} {lv : List (Nat × Value)} {st : List Value}
theorem g_iretW {v rr : Int32} {ss : ST} (C : FX Γ l cc nL own R E) (hR : RT Γ (some .int) E (some (.int rr)) ss) (hf : some (v, σ) = some (rr, ss)) (hd : decode cc pc = .ok (.ireturn, 1)) : GW Γ nL E σ pc lv [.int v] := by
  cases hf; exact g_iret C hR hd
theorem g_iretR {v rr : Int32} (C : FX Γ l cc nL own R E) (hR : RT Γ (some .int) E (some (.int rr)) σ) (hf : some v = some rr) (hd : decode cc pc = .ok (.ireturn, 1)) : GW Γ nL E σ pc lv [.int v] := by
  cases hf; exact g_iret C hR hd
theorem g_zretW {v rr : Int32} {ss : ST} (C : FX Γ l cc nL own R E) (hR : RT Γ (some .boolean) E (some (.int rr)) ss) (hf : some (v, σ) = some (rr, ss)) (hv : v = 0 ∨ v = 1) (hd : decode cc pc = .ok (.ireturn, 1)) : GW Γ nL E σ pc lv [.int v] := by
  cases hf; exact g_zret C hR hv hd
theorem g_zretR {v rr : Int32} (C : FX Γ l cc nL own R E) (hR : RT Γ (some .boolean) E (some (.int rr)) σ) (hf : some v = some rr) (hv : v = 0 ∨ v = 1) (hd : decode cc pc = .ok (.ireturn, 1)) : GW Γ nL E σ pc lv [.int v] := by
  cases hf; exact g_zret C hR hv hd
theorem g_lretW {v rr : Int64} {ss : ST} (C : FX Γ l cc nL own R E) (hR : RT Γ (some .long) E (some (.long rr)) ss) (hf : some (v, σ) = some (rr, ss)) (hd : decode cc pc = .ok (.lreturn, 1)) : GW Γ nL E σ pc lv [.long v] := by
  cases hf; exact g_lret C hR hd
theorem g_lretR {v rr : Int64} (C : FX Γ l cc nL own R E) (hR : RT Γ (some .long) E (some (.long rr)) σ) (hf : some v = some rr) (hd : decode cc pc = .ok (.lreturn, 1)) : GW Γ nL E σ pc lv [.long v] := by
  cases hf; exact g_lret C hR hd
theorem g_aretR {v rr : Option Nat} {nm : String} {w : Value} (C : FX Γ l cc nL own R E) (hR : RT Γ (some (.object nm)) E (some (va_rf rr)) σ) (hf : some v = some rr) (hd : decode cc pc = .ok (.areturn, 1)) (hw : w = va_rf v := by rfl) : GW Γ nL E σ pc lv [w] := by
  cases hf; subst hw; exact g_aret C hR hd
theorem g_vretW {ss : ST} (C : FX Γ l cc nL own R E) (hR : RT Γ none E none ss) (hf : some σ = some ss) (hd : decode cc pc = .ok (.return_, 1)) : GW Γ nL E σ pc lv [] := by
  cases hf; exact g_vret C hR hd
theorem g_ald (C : FX Γ l cc nL own R E) {o n k : Nat} (hA : ARY o n) {i : Int32} (hd : decode cc pc = .ok (.iaload, 1)) (hk : i.toNatClampNeg = k) (hi : inB i n) (K : GW Γ nL E σ (pc + 1) lv (.int (σ.1 o k) :: st)) : GW Γ nL E σ pc lv (.int i :: .ref (E.2.1 o) :: st) := by
  subst hk; exact g_iald C o hd hA.1 (hA.2 E σ) hi K
theorem g_ast (C : FX Γ l cc nL own R E) {o n k : Nat} (hA : ARY o n) {i x : Int32} {σ' : ST} (hd : decode cc pc = .ok (.iastore, 1)) (hk : i.toNatClampNeg = k) (hi : inB i n) (hσ : uI σ o k x = σ') (K : GW Γ nL E σ' (pc + 1) lv st) : GW Γ nL E σ pc lv (.int x :: .int i :: .ref (E.2.1 o) :: st) := by
  subst hk; exact g_iast C o σ' hd hA.1 (hA.2 E) hi hσ.symm K
theorem g_alenA (C : FX Γ l cc nL own R E) {o n : Nat} (hA : ARY o n) {v : Int32} (hd : decode cc pc = .ok (.arraylength, 1)) (hv : Int32.ofNat n = v) (K : GW Γ nL E σ (pc + 1) lv (.int v :: st)) : GW Γ nL E σ pc lv (.ref (E.2.1 o) :: st) :=
  g_alen C o 0 hd hA.1 (hA.2 E σ) rfl hv K
theorem g_ldcw (C : FX Γ l cc nL own R E) {idx : Nat} {v : Int32} (hd : decode cc pc = .ok (.ldc_w idx, 3)) (hk : Cond.constant own idx v ∈ lw_tbl) (K : GW Γ nL E σ (pc + 3) lv (.int v :: st)) : GW Γ nL E σ pc lv st := by
  obtain ⟨p, l', e, R', s, m, args, below, meth, c, cs, A, Q⟩ := Γ
  obtain ⟨hx, hb, hml, hown, hR', hl', hKE, hHE, hA, -⟩ := C
  intro H locs ls hP hD hS hl
  exact lv_ldcw hx hb hown (hKE.1 _ hk rfl args) hd (K H locs ls hP hD hS hl)
theorem g_ifnullN (C : FX Γ l cc nL own R E) {off : Int} {tgt : Nat} (hd : decode cc pc = .ok (.ifnull off, 3)) (ht : (pc : Int) + off = (tgt : Int)) (K : GW Γ nL E σ tgt lv st) : GW Γ nL E σ pc lv (va_rf none :: st) := g_ifnull C hd ht (fun _ => K) (fun _ h => by cases h)
theorem g_ifnullR (C : FX Γ l cc nL own R E) {a : Nat} {off : Int} (hd : decode cc pc = .ok (.ifnull off, 3)) (K : GW Γ nL E σ (pc + 3) lv st) : GW Γ nL E σ pc lv (va_rf (some a) :: st) := by
  obtain ⟨p, l', e, R', s, m, args, below, meth, c, cs, A, Q⟩ := Γ
  intro H locs ls hP hD hS hl
  exact lv_ifnull C.1 C.2.1 hd (K H locs ls hP hD hS hl)
theorem g_ifnonnullN (C : FX Γ l cc nL own R E) {off : Int} (hd : decode cc pc = .ok (.ifnonnull off, 3)) (K : GW Γ nL E σ (pc + 3) lv st) : GW Γ nL E σ pc lv (va_rf none :: st) := by
  obtain ⟨p, l', e, R', s, m, args, below, meth, c, cs, A, Q⟩ := Γ
  intro H locs ls hP hD hS hl
  exact lv_ifnonnullN C.1 C.2.1 hd (K H locs ls hP hD hS hl)
theorem g_ifnonnullR (C : FX Γ l cc nL own R E) {a : Nat} {off : Int} {tgt : Nat} (hd : decode cc pc = .ok (.ifnonnull off, 3)) (ht : (pc : Int) + off = (tgt : Int)) (K : GW Γ nL E σ tgt lv st) : GW Γ nL E σ pc lv (va_rf (some a) :: st) := by
  obtain ⟨p, l', e, R', s, m, args, below, meth, c, cs, A, Q⟩ := Γ
  intro H locs ls hP hD hS hl
  exact lv_ifnonnull C.1 C.2.1 hd ht (K H locs ls hP hD hS hl)
theorem g_lcmp_eq (C : FX Γ l cc nL own R E) {x y : Int64} {off : Int} {tgt : Nat} (hd1 : decode cc pc = .ok (.lcmp, 1)) (hd : decode cc (pc + 1) = .ok (.ifCond .eq off, 3)) (ht : ((pc + 1 : Nat) : Int) + off = (tgt : Int)) (K1 : x = y → GW Γ nL E σ tgt lv st) (K2 : ¬ (x = y) → GW Γ nL E σ (pc + 1 + 3) lv st) : GW Γ nL E σ pc lv (.long y :: .long x :: st) :=
  g_lcmp C hd1 (g_if_eq (y := 0) C hd ht (fun h => K1 ((lg_cmp_eq x y).mp h)) (fun h => K2 (fun q => h ((lg_cmp_eq x y).mpr q))))
theorem g_lcmp_ne (C : FX Γ l cc nL own R E) {x y : Int64} {off : Int} {tgt : Nat} (hd1 : decode cc pc = .ok (.lcmp, 1)) (hd : decode cc (pc + 1) = .ok (.ifCond .ne off, 3)) (ht : ((pc + 1 : Nat) : Int) + off = (tgt : Int)) (K1 : ¬ x = y → GW Γ nL E σ tgt lv st) (K2 : x = y → GW Γ nL E σ (pc + 1 + 3) lv st) : GW Γ nL E σ pc lv (.long y :: .long x :: st) :=
  g_lcmp C hd1 (g_if_ne (y := 0) C hd ht (fun h => K1 (fun q => h ((lg_cmp_eq x y).mpr q))) (fun h => K2 ((lg_cmp_eq x y).mp h)))
theorem g_lcmp_lt (C : FX Γ l cc nL own R E) {x y : Int64} {off : Int} {tgt : Nat} (hd1 : decode cc pc = .ok (.lcmp, 1)) (hd : decode cc (pc + 1) = .ok (.ifCond .lt off, 3)) (ht : ((pc + 1 : Nat) : Int) + off = (tgt : Int)) (K1 : x < y → GW Γ nL E σ tgt lv st) (K2 : ¬ (x < y) → GW Γ nL E σ (pc + 1 + 3) lv st) : GW Γ nL E σ pc lv (.long y :: .long x :: st) :=
  g_lcmp C hd1 (g_if_lt (y := 0) C hd ht (fun h => K1 ((lg_cmp_lt x y).mp h)) (fun h => K2 (fun q => h ((lg_cmp_lt x y).mpr q))))
theorem g_lcmp_ge (C : FX Γ l cc nL own R E) {x y : Int64} {off : Int} {tgt : Nat} (hd1 : decode cc pc = .ok (.lcmp, 1)) (hd : decode cc (pc + 1) = .ok (.ifCond .ge off, 3)) (ht : ((pc + 1 : Nat) : Int) + off = (tgt : Int)) (K1 : y ≤ x → GW Γ nL E σ tgt lv st) (K2 : ¬ (y ≤ x) → GW Γ nL E σ (pc + 1 + 3) lv st) : GW Γ nL E σ pc lv (.long y :: .long x :: st) :=
  g_lcmp C hd1 (g_if_ge (y := 0) C hd ht (fun h => K1 ((lg_cmp_ge x y).mp h)) (fun h => K2 (fun q => h ((lg_cmp_ge x y).mpr q))))
theorem g_lcmp_gt (C : FX Γ l cc nL own R E) {x y : Int64} {off : Int} {tgt : Nat} (hd1 : decode cc pc = .ok (.lcmp, 1)) (hd : decode cc (pc + 1) = .ok (.ifCond .gt off, 3)) (ht : ((pc + 1 : Nat) : Int) + off = (tgt : Int)) (K1 : y < x → GW Γ nL E σ tgt lv st) (K2 : ¬ (y < x) → GW Γ nL E σ (pc + 1 + 3) lv st) : GW Γ nL E σ pc lv (.long y :: .long x :: st) :=
  g_lcmp C hd1 (g_if_gt (y := 0) C hd ht (fun h => K1 ((lg_cmp_gt x y).mp h)) (fun h => K2 (fun q => h ((lg_cmp_gt x y).mpr q))))
theorem g_lcmp_le (C : FX Γ l cc nL own R E) {x y : Int64} {off : Int} {tgt : Nat} (hd1 : decode cc pc = .ok (.lcmp, 1)) (hd : decode cc (pc + 1) = .ok (.ifCond .le off, 3)) (ht : ((pc + 1 : Nat) : Int) + off = (tgt : Int)) (K1 : x ≤ y → GW Γ nL E σ tgt lv st) (K2 : ¬ (x ≤ y) → GW Γ nL E σ (pc + 1 + 3) lv st) : GW Γ nL E σ pc lv (.long y :: .long x :: st) :=
  g_lcmp C hd1 (g_if_le (y := 0) C hd ht (fun h => K1 ((lg_cmp_le x y).mp h)) (fun h => K2 (fun q => h ((lg_cmp_le x y).mpr q))))
theorem g_mabs (C : FX Γ l cc nL own R E) {x y : Int32} {idx : Nat} (hd : decode cc pc = .ok (.invokestatic idx, 3)) (hk : (Cond.methodLink own idx Lib.Math.abs.name ∈ lw_tbl) ∧ (Cond.static Lib.Math.abs.name ∈ lw_tbl) ∧ (Cond.initialized "java/lang/Math" ∈ lw_tbl) ∧ (Cond.code Lib.Math.abs.name Lib.Math.abs.code 1 (some .int) ∈ lw_tbl)) (hf : 1 ≤ R.frames) (hlo : (st.map fun v => v.category).sum + 13 ≤ R.locals) (K : GW Γ nL E σ (pc + 3) lv (.int (if 0 ≤ x then x else 0 - x) :: st)) : GW Γ nL E σ pc lv (.int x :: st) := by
  obtain ⟨p, l', e, R', s, m, args, below, meth, c, cs, A, Q⟩ := Γ
  obtain ⟨hx, hb, hml, hown, rfl, rfl, hKE, hHE, hA, hc1, hc2⟩ := C
  intro H locs ls hP hD hS hl
  exact va_mabs hx hb (hml.trans hl.1.symm) hown (hKE.1 _ hk.1 rfl args) (hKE.1 _ hk.2.1 rfl args) (hKE.1 _ hk.2.2.1 rfl args) (hKE.1 _ hk.2.2.2 rfl args) hf hlo hc1 hc2 hd (K H locs ls hP hD hS hl)
theorem g_mmax (C : FX Γ l cc nL own R E) {x y : Int32} {idx : Nat} (hd : decode cc pc = .ok (.invokestatic idx, 3)) (hk : (Cond.methodLink own idx Lib.Math.max.name ∈ lw_tbl) ∧ (Cond.static Lib.Math.max.name ∈ lw_tbl) ∧ (Cond.initialized "java/lang/Math" ∈ lw_tbl) ∧ (Cond.code Lib.Math.max.name Lib.Math.max.code 2 (some .int) ∈ lw_tbl)) (hf : 1 ≤ R.frames) (hlo : (st.map fun v => v.category).sum + 13 ≤ R.locals) (K : GW Γ nL E σ (pc + 3) lv (.int (if x < y then y else x) :: st)) : GW Γ nL E σ pc lv (.int y :: .int x :: st) := by
  obtain ⟨p, l', e, R', s, m, args, below, meth, c, cs, A, Q⟩ := Γ
  obtain ⟨hx, hb, hml, hown, rfl, rfl, hKE, hHE, hA, hc1, hc2⟩ := C
  intro H locs ls hP hD hS hl
  exact va_mmax hx hb (hml.trans hl.1.symm) hown (hKE.1 _ hk.1 rfl args) (hKE.1 _ hk.2.1 rfl args) (hKE.1 _ hk.2.2.1 rfl args) (hKE.1 _ hk.2.2.2 rfl args) hf hlo hc1 hc2 hd (K H locs ls hP hD hS hl)
theorem g_mmin (C : FX Γ l cc nL own R E) {x y : Int32} {idx : Nat} (hd : decode cc pc = .ok (.invokestatic idx, 3)) (hk : (Cond.methodLink own idx Lib.Math.min.name ∈ lw_tbl) ∧ (Cond.static Lib.Math.min.name ∈ lw_tbl) ∧ (Cond.initialized "java/lang/Math" ∈ lw_tbl) ∧ (Cond.code Lib.Math.min.name Lib.Math.min.code 2 (some .int) ∈ lw_tbl)) (hf : 1 ≤ R.frames) (hlo : (st.map fun v => v.category).sum + 13 ≤ R.locals) (K : GW Γ nL E σ (pc + 3) lv (.int (if y < x then y else x) :: st)) : GW Γ nL E σ pc lv (.int y :: .int x :: st) := by
  obtain ⟨p, l', e, R', s, m, args, below, meth, c, cs, A, Q⟩ := Γ
  obtain ⟨hx, hb, hml, hown, rfl, rfl, hKE, hHE, hA, hc1, hc2⟩ := C
  intro H locs ls hP hD hS hl
  exact va_mmin hx hb (hml.trans hl.1.symm) hown (hKE.1 _ hk.1 rfl args) (hKE.1 _ hk.2.1 rfl args) (hKE.1 _ hk.2.2.1 rfl args) (hKE.1 _ hk.2.2.2 rfl args) hf hlo hc1 hc2 hd (K H locs ls hP hD hS hl)
end RULES2
