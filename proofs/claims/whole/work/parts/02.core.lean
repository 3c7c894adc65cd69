/-! THE WORLD: the class's cells 0 to 19, the reference's 20 to 39, the streets in a pool. E: what stays (class numbers, addresses); σ: what changes (ints and longs by cell and place, the streets' row, the pool) -/
abbrev EV : Type := va_G × (Nat → Nat) × (ClassId × ClassId × ClassId) × (Nat → Nat) × (Nat → Nat)
abbrev ST : Type := (Nat → Nat → Int32) × (Nat → Nat → Int64) × (Nat → Option Nat) × List Nat × (Nat → Nat) × (Nat → Int32) × (Nat → Int32)
def wc (E : EV) (σ : ST) (o : Nat) : va_E := match o with
  | 0 => .inr (9, [.ref (E.2.1 1), .ref (E.2.1 3), .ref (E.2.1 4), .ref (E.2.1 6), .ref (E.2.1 14), .int (σ.1 0 5), .int (σ.1 0 6), .int (σ.1 0 7)])
  | 1 => .inr (4, [.ref (E.2.1 2), .int (σ.1 1 1)])
  | 2 => .inl (E.2.2.1.1, 44, .inl (σ.1 2))
  | 3 => .inr (8, [.ref (E.2.1 4), .ref (E.2.1 6), .ref (E.2.1 12), .ref (E.2.1 13), .int (σ.1 3 4), .int (σ.1 3 5), .int (σ.1 3 6), .int (σ.1 3 7), .long (σ.2.1 3 8)])
  | 4 => .inr (1, [.ref (E.2.1 5), .int (σ.1 4 1), .int (σ.1 4 2)])
  | 5 => .inl (E.2.2.1.2.2, 8, .inr (.inr (.inr (.inr σ.2.2.1))))
  | 6 => .inr (3, [.ref (E.2.1 7), .ref (E.2.1 8), .ref (E.2.1 9), .ref (E.2.1 10), .ref (E.2.1 11), .long (σ.2.1 6 5), .long (σ.2.1 6 6), .int (σ.1 6 7), .int (σ.1 6 8), .int (σ.1 6 9), .int (σ.1 6 10)])
  | 7 => .inl (E.2.2.1.1, 8, .inl (σ.1 7))
  | 8 => .inl (E.2.2.1.1, 8, .inl (σ.1 8))
  | 9 => .inl (E.2.2.1.1, 6, .inl (σ.1 9))
  | 10 => .inl (E.2.2.1.1, 6, .inl (σ.1 10))
  | 11 => .inl (E.2.2.1.1, 6, .inl (σ.1 11))
  | 12 => .inl (E.2.2.1.1, 5, .inl (σ.1 12))
  | 13 => .inl (E.2.2.1.2.1, 1024, .inr (.inl (σ.2.1 13)))
  | 14 => .inr (3, [.ref (E.2.1 15), .ref (E.2.1 16), .ref (E.2.1 17), .ref (E.2.1 18), .ref (E.2.1 19), .long (σ.2.1 14 5), .long (σ.2.1 14 6), .int (σ.1 14 7), .int (σ.1 14 8), .int (σ.1 14 9), .int (σ.1 14 10)])
  | 15 => .inl (E.2.2.1.1, 8, .inl (σ.1 15))
  | 16 => .inl (E.2.2.1.1, 8, .inl (σ.1 16))
  | 17 => .inl (E.2.2.1.1, 6, .inl (σ.1 17))
  | 18 => .inl (E.2.2.1.1, 6, .inl (σ.1 18))
  | 19 => .inl (E.2.2.1.1, 6, .inl (σ.1 19))
  | 20 => .inr (10, [.ref (E.2.1 21), .int (σ.1 20 1), .int (σ.1 20 2), .int (σ.1 20 3), .int (σ.1 20 4), .int (σ.1 20 5), .int (σ.1 20 6), .int (σ.1 20 7), .ref (E.2.1 22), .ref (E.2.1 23), .ref (E.2.1 24), .ref (E.2.1 25), .ref (E.2.1 26), .int (σ.1 20 13), .int (σ.1 20 14), .ref (E.2.1 27), .ref (E.2.1 28), .ref (E.2.1 29), .ref (E.2.1 30), .ref (E.2.1 31), .int (σ.1 20 20), .ref (E.2.1 32), .int (σ.1 20 22), .int (σ.1 20 23), .ref (E.2.1 33), .ref (E.2.1 34), .int (σ.1 20 26), .int (σ.1 20 27), .int (σ.1 20 28), .int (σ.1 20 29), .int (σ.1 20 30), .int (σ.1 20 31), .int (σ.1 20 32), .int (σ.1 20 33), .ref (E.2.1 35), .ref (E.2.1 36), .ref (E.2.1 37), .ref (E.2.1 38), .ref (E.2.1 39), .long (σ.2.1 20 39)])
  | 21 => .inl (E.2.2.1.1, 44, .inl (σ.1 21))
  | 22 => .inl (E.2.2.1.1, 24, .inl (σ.1 22))
  | 23 => .inl (E.2.2.1.1, 8, .inl (σ.1 23))
  | 24 => .inl (E.2.2.1.1, 8, .inl (σ.1 24))
  | 25 => .inl (E.2.2.1.1, 8, .inl (σ.1 25))
  | 26 => .inl (E.2.2.1.1, 8, .inl (σ.1 26))
  | 27 => .inl (E.2.2.1.1, 8, .inl (σ.1 27))
  | 28 => .inl (E.2.2.1.1, 8, .inl (σ.1 28))
  | 29 => .inl (E.2.2.1.1, 48, .inl (σ.1 29))
  | 30 => .inl (E.2.2.1.1, 6, .inl (σ.1 30))
  | 31 => .inl (E.2.2.1.1, 6, .inl (σ.1 31))
  | 32 => .inl (E.2.2.1.1, 512, .inl (σ.1 32))
  | 33 => .inl (E.2.2.1.1, 18, .inl (σ.1 33))
  | 34 => .inl (E.2.2.1.1, 12, .inl (σ.1 34))
  | 35 => .inl (E.2.2.1.1, 8, .inl (σ.1 35))
  | 36 => .inl (E.2.2.1.1, 8, .inl (σ.1 36))
  | 37 => .inl (E.2.2.1.1, 8, .inl (σ.1 37))
  | 38 => .inl (E.2.2.1.1, 8, .inl (σ.1 38))
  | 39 => .inl (E.2.2.1.1, 18, .inl (σ.1 39))
  | _ => .inr (0, [])
def wp (σ : ST) (a : Nat) : va_E := .inr (σ.2.2.2.2.1 a, [.int (σ.2.2.2.2.2.1 a), .int (σ.2.2.2.2.2.2 a)])
def wd (E : EV) (σ : ST) : va_W := (List.range 40).map (fun o => (E.2.1 o, wc E σ o)) ++ va_pl σ.2.2.2.1 (wp σ)
theorem wd_at (E : EV) (σ : ST) {o : Nat} (h : o < 40) : (wd E σ)[o]? = some (E.2.1 o, wc E σ o) := by
  unfold wd
  rw [List.getElem?_append_left (by simp; exact h)]
  simp [h]
theorem wd_pl (E : EV) (σ : ST) {a : Nat} (h : a ∈ σ.2.2.2.1) : ∃ k : Nat, (wd E σ)[k]? = some (a, wp σ a) := va_pl_get h
theorem wc_congr {E : EV} {σ σ' : ST} {o : Nat} (h1 : σ'.1 o = σ.1 o) (h2 : σ'.2.1 o = σ.2.1 o) (h3 : σ'.2.2.1 = σ.2.2.1) : wc E σ' o = wc E σ o := by
  revert h1 h2
  unfold wc
  split <;> intro h1 h2 <;> simp only [h1, h2, h3]
theorem wd_set {E : EV} {σ σ' : ST} {o : Nat} (h : o < 40) {x : va_E} (h1 : wc E σ' o = x) (h2 : ∀ j, j ≠ o → σ'.1 j = σ.1 j ∧ σ'.2.1 j = σ.2.1 j) (h3 : o = 5 ∨ σ'.2.2.1 = σ.2.2.1) (h4 : σ'.2.2.2 = σ.2.2.2) : (wd E σ).set o (E.2.1 o, x) = wd E σ' := by
  have hp : wp σ' = wp σ := by funext a; simp only [wp, h4]
  unfold wd
  rw [List.set_append_left _ _ (by simp; exact h), hp, h4]
  congr 1
  apply List.ext_getElem?
  intro i
  rw [List.getElem?_set]
  by_cases hi : o = i
  · subst hi
    simp [h, h1]
  · rw [if_neg hi]
    by_cases hl : i < 40
    · have e : wc E σ' i = wc E σ i := by
        by_cases h5 : σ'.2.2.1 = σ.2.2.1
        · exact wc_congr (h2 i (fun q => hi q.symm)).1 (h2 i (fun q => hi q.symm)).2 h5
        · have ho : o = 5 := h3.resolve_right h5
          have hi5 : i ≠ 5 := fun q => hi (by omega)
          have hh := h2 i (fun q => hi q.symm)
          obtain ⟨a, b⟩ := hh
          revert a b hi5
          unfold wc
          split <;> intro hi5 a b <;> first | (exact absurd rfl hi5) | (simp only [a, b]; done) | rfl
      simp [hl, e]
    · simp [hl]
/-- what stays true of the tables while the law runs -/
def KT (U : State) : Prop := ∀ w ∈ lw_tbl, (w.onTables && w.keeps) = true → ∀ a : Array Value, w.before a U = true
def KE (E : EV) (U : State) : Prop := KT U ∧ va_K E.1 vwCl [(E.2.2.1.1, .int), (E.2.2.1.2.1, .long), (E.2.2.1.2.2, .object "KeyStreets$Street")] U ∧ va_Nw (.methodLinkNest "KeyStreets$Page" 23 yX10_isNote "KeyStreets") U ∧ vk_R "KeyStreets$Page" 27 "smbpi" (E.2.2.2.1 0) U
    ∧ ((∀ q ∈ [(RX5, RX2), (RX2, RX7), (RX0, RX7), (RX6, RX7), (RX5, RX7)], va_Nw (.castable q.1 q.2) U) ∧ (∀ q ∈ [(RX0, RX2), (RX6, RX2), (RX7, RX2), (RX2, RX0), (RX5, RX0), (RX6, RX0), (RX7, RX0), (RX0, RX6), (RX2, RX6), (RX5, RX6), (RX7, RX6), (RX0, RX5), (RX2, RX5), (RX6, RX5), (RX7, RX5)], va_Nc q.1 q.2 U))
/-- what stays true of the heap: the text of kinds, and String's static -/
def HE (E : EV) (A : Nat → Prop) (U : State) (H : Heap) : Prop := vk_S 1 [5] [[115, 109, 98, 112, 105]] E.2.2.2.1 E.2.2.2.2 A U H ∧ va_Z "java/lang/String" "COMPACT_STRINGS" "Z" (.int 1) A U H
theorem KT.warm {s U : State} (hW : s.WarmedH U.vm) (h : KT s) : KT U := fun w hw hg a => word_at (args := a) hW (Or.inl hg) (h w hw hg a)
theorem KE.warm {E : EV} {s U : State} (hW : s.WarmedH U.vm) (h : KE E s) : KE E U :=
  ⟨h.1.warm hW, va_K.moved hW.alike h.2.1, va_Nw.warmM hW h.2.2.1, vk_R.warm hW h.2.2.2.1, fun q hq => va_Nw.warmC hW (h.2.2.2.2.1 q hq), fun q hq => (h.2.2.2.2.2 q hq).moved hW.alike⟩
theorem KE.calling {E : EV} {U : State} {g : JFrame} {mk : MethodId} {a : Array Value} (h : KE E U) : KE E (U.calling g mk a) :=
  ⟨fun w hw hg a' => va_tabs (u := U) (U := U.calling g mk a) (by simp only [Bool.and_eq_true] at hg; exact hg.1) rfl (h.1 w hw hg a'), va_K.moved (u := U) (U := U.calling g mk a) (Vm.Alike.refl U.vm) h.2.1, va_Nw.same rfl rfl h.2.2.1, vk_R.same rfl h.2.2.2.1, fun q hq => va_Nw.same rfl rfl (h.2.2.2.2.1 q hq), fun q hq => va_Nc.moved (Vm.Alike.refl U.vm) (h.2.2.2.2.2 q hq)⟩
theorem HE.kept {E : EV} {A : Nat → Prop} {U : State} {H H1 : Heap} (h : HE E A U H) (hq : ∀ a : Nat, a < H.size → ¬ A a → H1[a]? = H[a]?) : HE E A U H1 := ⟨h.1.kept hq, h.2.kept hq⟩
theorem HE.narrow {E : EV} {A B : Nat → Prop} {U : State} {H : Heap} (h : HE E A U H) (hq : ∀ q, B q → A q) : HE E B U H := ⟨h.1.narrow hq, h.2.narrow hq⟩
theorem HE.moved {E : EV} {A : Nat → Prop} {u U : State} {H : Heap} (hvm : u.vm.Alike U.vm) (h : HE E A u H) : HE E A U H := ⟨vk_S.moved hvm h.1, va_Z.moved hvm h.2⟩
/-- the start of a method -/
def PRE (E : EV) (σ : ST) (sz : Nat) (U : State) : Prop := U.heap.size = sz ∧ va_P E.1 vwCl (wd E σ) U.heap ∧ va_D (fun _ => True) (wd E σ) ∧ KE E U ∧ HE E (va_A (wd E σ) sz) U U.heap
theorem PRE.calling {E : EV} {σ : ST} {sz : Nat} {U : State} {g : JFrame} {mk : MethodId} {a : Array Value} (h : PRE E σ sz U) : PRE E σ sz (U.calling g mk a) :=
  ⟨h.1, h.2.1, h.2.2.1, h.2.2.2.1.calling, HE.moved (u := U) (U := U.calling g mk a) (Vm.Alike.refl U.vm) h.2.2.2.2⟩
/-- a method's contract: from the world σ it returns r, the world is σ' -/
def CT (l : Launch) (E : EV) (y : MethodName) (bytes : ByteArray) (maxL : Nat) (ret : Option FieldType) (rm : Room) (as : List Value) (σ : ST) (r : Option Value) (σ' : ST) : Prop :=
  ∀ sz : Nat, Met l y [.code y bytes maxL ret] rm (va_Pc as (PRE E σ sz)) (fun _ st oc t => oc = .returned r ∧ va_P E.1 vwCl (wd E σ') t.heap ∧ va_D (va_A (wd E σ) sz) (wd E σ') ∧ va_F (va_A (wd E σ) sz) st t) 0 0 (va_A (wd E σ) sz)
abbrev CX : Type := Program × Launch × Env × Room × State × MethodId × Array Value × List Frame × Method × Code × (Nat × Nat) × (Nat → Prop) × (State → Prop)
/-- what a running method has: its code, its room, the tables -/
def FX (Γ : CX) (l : Launch) (cc : ByteArray) (nL : Nat) (own : String) (R : Room) (E : EV) : Prop := match Γ with
  | (p, l', _, R', s, m, _, _, _, c, cs, A, _) => p.tables.exec = Jvm.exec ∧ c.code = cc ∧ c.maxLocals = nL ∧ s.vm.findClass own = some m.cls ∧ R' = R ∧ l' = l ∧ KE E s ∧ HE E A s s.heap ∧ (∀ q, s.heap.size ≤ q → A q) ∧ cs.1 ≤ R.cells ∧ cs.2 ≤ R.slots
/-- the machine at pc, with these locals, this stack and the world σ, comes to its end -/
def GW (Γ : CX) (nL : Nat) (E : EV) (σ : ST) (pc : Nat) (lv : List (Nat × Value)) (st : List Value) : Prop := match Γ with
  | (p, l, e, R, s, m, args, below, meth, c, cs, A, Q) => ∀ (H : Heap) (locs : List Loc) (ls : Array Slot), va_P E.1 vwCl (wd E σ) H → va_D A (wd E σ) → va_S A s.heap H locs → lv_has ls nL lv → W p l e R s m args below meth c H locs cs.1 cs.2 Q (F0 m pc ls st)
/-- what is wanted at the return -/
def RT (Γ : CX) (ret : Option FieldType) (E : EV) (r : Option Value) (σ : ST) : Prop := match Γ with
  | (_, _, _, _, s, _, args, below, meth, _, cs, A, Q) => meth.sig.returnType = ret ∧ meth.locks = false ∧ ∃ (Qc : Array Value → State → Outcome → State → Prop) (free : Addr → Prop), Q = MQ below Qc args s cs.1 cs.2 free ∧ (∀ q, A q → free q) ∧ ∀ t : State, va_P E.1 vwCl (wd E σ) t.heap → va_D A (wd E σ) → va_F A s t → Qc args s (.returned r) t
set_option maxHeartbeats 1000000 in
/-- a contract out of a walk -/
theorem CT.of {l : Launch} {E : EV} {y : MethodName} {bytes : ByteArray} {maxL : Nat} {ret : Option FieldType} {rm : Room} {as : List Value} {σ : ST} {r : Option Value} {σ' : ST} (own : String) (ho : y.cls = own) (hy : plainName y.cls = true) (hlen : (lg_sl as).length ≤ maxL) (hc0 : rm.cells = 0) (hs0 : rm.slots = 0)
    (body : ∀ Γ : CX, FX Γ l bytes maxL own rm E → RT Γ ret E r σ' → GW Γ maxL E σ 0 (lv_args 0 as) []) : CT l E y bytes maxL ret rm as σ r σ' := by
  intro sz
  refine Met.ofW (cc := bytes) (maxL := maxL) (ret := ret) hy rfl ?_
  intro p e s m args below meth c s₁ B hml hv
  obtain ⟨rfl, hsz, hP, hD, hK, hH⟩ := hv
  subst hsz
  have hown : s.vm.findClass own = some m.cls := by rw [← ho]; exact findClass_of_methodNamed B.named
  have h := body (p, l, e, rm, s, m, as.toArray, below, meth, c, (0, 0), va_A (wd E σ) s.heap.size, MQ below (fun _ st oc t => oc = .returned r ∧ va_P E.1 vwCl (wd E σ') t.heap ∧ va_D (va_A (wd E σ) s.heap.size) (wd E σ') ∧ va_F (va_A (wd E σ) s.heap.size) st t) as.toArray s 0 0 (va_A (wd E σ) s.heap.size))
    ⟨B.exec, B.bytes, hml, hown, rfl, rfl, hK, hH, fun q h => Or.inr h, by rw [hc0]; exact Nat.le_refl 0, by rw [hs0]; exact Nat.le_refl 0⟩
    ⟨B.returns, B.notSynchronized, _, _, rfl, fun _ h => h, fun t h1 h2 h3 => ⟨rfl, h1, h2, h3⟩⟩
  rw [lg_entry_eq]
  exact h s.heap [] _ hP (hD.self) va_S.rf (lv_entry as hlen)
section RULES
variable {Γ : CX} {l : Launch} {cc : ByteArray} {nL : Nat} {own : String} {R : Room} {E : EV} {σ : ST} {pc : Nat} {lv : List (Nat × Value)} {st : List Value}
theorem g_iret {v : Int32} (C : FX Γ l cc nL own R E) (hR : RT Γ (some .int) E (some (.int v)) σ) (hd : decode cc pc = .ok (.ireturn, 1)) : GW Γ nL E σ pc lv [.int v] := by
  obtain ⟨p, l', e, R', s, m, args, below, meth, c, cs, A, Q⟩ := Γ
  obtain ⟨h1, h2, Qc, free, rfl, h3, h4⟩ := hR
  intro H locs ls hP hD hS hl
  exact W.iret C.1 C.2.1 h1 (fun t ht hW => h4 t (by rw [ht]; exact hP) hD (hS.F ht)) (fun q hq => h3 _ (hS.2.2 q hq)) hd h2
theorem g_zret {v : Int32} (C : FX Γ l cc nL own R E) (hR : RT Γ (some .boolean) E (some (.int v)) σ) (hv : v = 0 ∨ v = 1) (hd : decode cc pc = .ok (.ireturn, 1)) : GW Γ nL E σ pc lv [.int v] := by
  obtain ⟨p, l', e, R', s, m, args, below, meth, c, cs, A, Q⟩ := Γ
  obtain ⟨h1, h2, Qc, free, rfl, h3, h4⟩ := hR
  intro H locs ls hP hD hS hl
  exact W.zret C.1 C.2.1 h1 (by rcases hv with rfl | rfl <;> rfl) (fun t ht hW => h4 t (by rw [ht]; exact hP) hD (hS.F ht)) (fun q hq => h3 _ (hS.2.2 q hq)) hd h2
theorem g_lret {v : Int64} (C : FX Γ l cc nL own R E) (hR : RT Γ (some .long) E (some (.long v)) σ) (hd : decode cc pc = .ok (.lreturn, 1)) : GW Γ nL E σ pc lv [.long v] := by
  obtain ⟨p, l', e, R', s, m, args, below, meth, c, cs, A, Q⟩ := Γ
  obtain ⟨h1, h2, Qc, free, rfl, h3, h4⟩ := hR
  intro H locs ls hP hD hS hl
  exact W.lret C.1 C.2.1 h1 (fun t ht hW => h4 t (by rw [ht]; exact hP) hD (hS.F ht)) (fun q hq => h3 _ (hS.2.2 q hq)) hd h2
theorem g_vret (C : FX Γ l cc nL own R E) (hR : RT Γ none E none σ) (hd : decode cc pc = .ok (.return_, 1)) : GW Γ nL E σ pc lv [] := by
  obtain ⟨p, l', e, R', s, m, args, below, meth, c, cs, A, Q⟩ := Γ
  obtain ⟨h1, h2, Qc, free, rfl, h3, h4⟩ := hR
  intro H locs ls hP hD hS hl
  exact W.vret C.1 C.2.1 h1 (fun t ht hW => h4 t (by rw [ht]; exact hP) hD (hS.F ht)) (fun q hq => h3 _ (hS.2.2 q hq)) hd h2
theorem g_aret {v : Option Nat} {nm : String} (C : FX Γ l cc nL own R E) (hR : RT Γ (some (.object nm)) E (some (va_rf v)) σ) (hd : decode cc pc = .ok (.areturn, 1)) : GW Γ nL E σ pc lv [va_rf v] := by
  obtain ⟨p, l', e, R', s, m, args, below, meth, c, cs, A, Q⟩ := Γ
  obtain ⟨h1, h2, Qc, free, rfl, h3, h4⟩ := hR
  intro H locs ls hP hD hS hl
  exact W.aret C.1 C.2.1 h1 (Or.inl ⟨_, rfl⟩) (by cases v with | none => exact Or.inl rfl | some a => exact Or.inr ⟨a, rfl⟩) (fun t ht hW => h4 t (by rw [ht]; exact hP) hD (hS.F ht)) (fun q hq => h3 _ (hS.2.2 q hq)) hd h2
theorem g_lv (lv' : List (Nat × Value)) (ks : List Nat) (h : lv_pick lv ks = lv') (K : GW Γ nL E σ pc lv' st) : GW Γ nL E σ pc lv st := by
  obtain ⟨p, l', e, R', s, m, args, below, meth, c, cs, A, Q⟩ := Γ
  intro H locs ls hP hD hS hl
  exact K H locs ls hP hD hS (lv_sub hl ks h)
theorem g_topi {x y : Int32} (h : x = y) (K : GW Γ nL E σ pc lv (.int y :: st)) : GW Γ nL E σ pc lv (.int x :: st) := h ▸ K
theorem g_topl {x y : Int64} (h : x = y) (K : GW Γ nL E σ pc lv (.long y :: st)) : GW Γ nL E σ pc lv (.long x :: st) := h ▸ K
theorem g_topr {x y : Option Nat} (h : x = y) (K : GW Γ nL E σ pc lv (va_rf y :: st)) : GW Γ nL E σ pc lv (va_rf x :: st) := h ▸ K
theorem g_goto (C : FX Γ l cc nL own R E) {off : Int} {tgt : Nat} (hd : decode cc pc = .ok (.goto off, 3)) (ht : (pc : Int) + off = (tgt : Int)) (K : GW Γ nL E σ tgt lv st) : GW Γ nL E σ pc lv st := by
  obtain ⟨p, l', e, R', s, m, args, below, meth, c, cs, A, Q⟩ := Γ
  intro H locs ls hP hD hS hl
  exact lv_goto C.1 C.2.1 hd ht (K H locs ls hP hD hS hl)
theorem g_iinc (C : FX Γ l cc nL own R E) {i : Nat} {n : Int} {x v : Int32} (j : Nat) (hd : decode cc pc = .ok (.iinc i n, 3)) (hk : lv[j]? = some (i, .int x)) (hv : x + Int32.ofInt n = v) (hn : i < nL) (lv' : List (Nat × Value)) (hl0 : (i, Value.int v) :: lv.filter (fun q => !(q.1 == i) && !(q.1 + 1 == i && q.2.category == 2)) = lv') (K : GW Γ nL E σ (pc + 3) lv' st) : GW Γ nL E σ pc lv st := by
  obtain ⟨p, l', e, R', s, m, args, below, meth, c, cs, A, Q⟩ := Γ
  intro H locs ls hP hD hS hl
  exact lv_iinc C.1 C.2.1 hd hl hk hv hn hl0 (fun ls2 h2 => K H locs ls2 hP hD hS h2)
theorem g_ifnull (C : FX Γ l cc nL own R E) {x : Option Nat} {off : Int} {tgt : Nat} (hd : decode cc pc = .ok (.ifnull off, 3)) (ht : (pc : Int) + off = (tgt : Int)) (K1 : x = none → GW Γ nL E σ tgt lv st) (K2 : ∀ a, x = some a → GW Γ nL E σ (pc + 3) lv st) : GW Γ nL E σ pc lv (va_rf x :: st) := by
  obtain ⟨p, l', e, R', s, m, args, below, meth, c, cs, A, Q⟩ := Γ
  intro H locs ls hP hD hS hl
  cases x with
  | none => exact lv_ifnullN C.1 C.2.1 hd ht (K1 rfl H locs ls hP hD hS hl)
  | some a => exact lv_ifnull C.1 C.2.1 hd (K2 a rfl H locs ls hP hD hS hl)
theorem g_ifnonnull (C : FX Γ l cc nL own R E) {x : Option Nat} {off : Int} {tgt : Nat} (hd : decode cc pc = .ok (.ifnonnull off, 3)) (ht : (pc : Int) + off = (tgt : Int)) (K1 : ∀ a, x = some a → GW Γ nL E σ tgt lv st) (K2 : x = none → GW Γ nL E σ (pc + 3) lv st) : GW Γ nL E σ pc lv (va_rf x :: st) := by
  obtain ⟨p, l', e, R', s, m, args, below, meth, c, cs, A, Q⟩ := Γ
  intro H locs ls hP hD hS hl
  cases x with
  | none => exact lv_ifnonnullN C.1 C.2.1 hd (K2 rfl H locs ls hP hD hS hl)
  | some a => exact lv_ifnonnull C.1 C.2.1 hd ht (K1 a rfl H locs ls hP hD hS hl)
theorem g_aloadq_n (C : FX Γ l cc nL own R E) {k : Fin 4} {x : Option Nat} (j : Nat) (hd : decode cc pc = .ok (.aload_n k, 1)) (hl0 : lv[j]? = some ((k : Nat), va_rf x)) (K : GW Γ nL E σ (pc + 1) lv (va_rf x :: st)) : GW Γ nL E σ pc lv st := by
  obtain ⟨p, l', e, R', s, m, args, below, meth, c, cs, A, Q⟩ := Γ
  intro H locs ls hP hD hS hl
  cases x with
  | none => exact lv_aload_nN C.1 C.2.1 hd rfl (lv_at hl j hl0) (K H locs ls hP hD hS hl)
  | some a => exact lv_aload_n C.1 C.2.1 hd rfl (lv_at hl j hl0) (K H locs ls hP hD hS hl)
theorem g_aloadq (C : FX Γ l cc nL own R E) {k : Nat} {x : Option Nat} (j : Nat) (hd : decode cc pc = .ok (.aload k, 2)) (hl0 : lv[j]? = some (k, va_rf x)) (K : GW Γ nL E σ (pc + 2) lv (va_rf x :: st)) : GW Γ nL E σ pc lv st := by
  obtain ⟨p, l', e, R', s, m, args, below, meth, c, cs, A, Q⟩ := Γ
  intro H locs ls hP hD hS hl
  cases x with
  | none => exact lv_aloadN C.1 C.2.1 hd (lv_at hl j hl0) (K H locs ls hP hD hS hl)
  | some a => exact lv_aload C.1 C.2.1 hd (lv_at hl j hl0) (K H locs ls hP hD hS hl)
theorem g_astoreq_n (C : FX Γ l cc nL own R E) {k : Fin 4} {x : Option Nat} (hd : decode cc pc = .ok (.astore_n k, 1)) (hn : (k : Nat) < nL) (lv' : List (Nat × Value)) (hl0 : ((k : Nat), va_rf x) :: lv.filter (fun q => !(q.1 == (k : Nat)) && !(q.1 + 1 == (k : Nat) && q.2.category == 2)) = lv') (K : GW Γ nL E σ (pc + 1) lv' st) : GW Γ nL E σ pc lv (va_rf x :: st) := by
  obtain ⟨p, l', e, R', s, m, args, below, meth, c, cs, A, Q⟩ := Γ
  intro H locs ls hP hD hS hl
  cases x with
  | none => exact lv_astore_nN C.1 C.2.1 hd rfl hl hn hl0 (fun ls2 h2 => K H locs ls2 hP hD hS h2)
  | some a => exact lv_astore_n C.1 C.2.1 hd rfl hl hn hl0 (fun ls2 h2 => K H locs ls2 hP hD hS h2)
theorem g_astoreq (C : FX Γ l cc nL own R E) {k : Nat} {x : Option Nat} (hd : decode cc pc = .ok (.astore k, 2)) (hn : k < nL) (lv' : List (Nat × Value)) (hl0 : (k, va_rf x) :: lv.filter (fun q => !(q.1 == k) && !(q.1 + 1 == k && q.2.category == 2)) = lv') (K : GW Γ nL E σ (pc + 2) lv' st) : GW Γ nL E σ pc lv (va_rf x :: st) := by
  obtain ⟨p, l', e, R', s, m, args, below, meth, c, cs, A, Q⟩ := Γ
  intro H locs ls hP hD hS hl
  cases x with
  | none => exact lv_astoreN C.1 C.2.1 hd hl hn hl0 (fun ls2 h2 => K H locs ls2 hP hD hS h2)
  | some a => exact lv_astore C.1 C.2.1 hd hl hn hl0 (fun ls2 h2 => K H locs ls2 hP hD hS h2)
/-- a class of the system: its number, name, fields -/
def CLS (ci : Nat) (Cn : String) (T : u_T) (N : Nat) : Prop := vwCl[ci]? = some (Cn, T, N) ∧ (∀ w ∈ u_ws Cn T N, w ∈ lw_tbl ∧ (w.onTables && w.keeps) = true)
/-- a field that a class's code names: of the object o, at the place k -/
def FLD (own : String) (idx : Nat) (T : u_T) (k : Nat) : Prop := (Cond.fieldLink own idx (T k).1 (T k).2.1 (T k).2.2.1) ∈ lw_tbl
theorem fld_ok {a : Array Value} {s : State} {idx k : Nat} {T : u_T} (h : KT s) (hf : FLD own idx T k) : (Cond.fieldLink own idx (T k).1 (T k).2.1 (T k).2.2.1).before a s = true := h _ hf rfl a
theorem g_get (C : FX Γ l cc nL own R E) (o : Nat) {ci idx k N : Nat} {Cn : String} {T : u_T} {fs : List Value} {v : Value} (hd : decode cc pc = .ok (.getfield idx, 3)) (hc : CLS ci Cn T N) (hf : FLD own idx T k) (ho : o < 40) (hk : k < N) (hw : wc E σ o = .inr (ci, fs)) (hv : fs[k]? = some v) (K : GW Γ nL E σ (pc + 3) lv (v :: st)) : GW Γ nL E σ pc lv (.ref (E.2.1 o) :: st) := by
  obtain ⟨p, l', e, R', s, m, args, below, meth, c, cs, A, Q⟩ := Γ
  obtain ⟨hx, hb, hml, hown, hR', hl', hKE, hHE, hA, -⟩ := C
  intro H locs ls hP hD hS hl
  refine va_get (D := E.1) (Ts := u_ws Cn T N) hx hb (fun w h => hKE.1 w (hc.2 w h).1 (hc.2 w h).2 args) (fun _ h => h) hown hKE.2.1 hP o (by rw [wd_at E σ ho, hw]) hc.1 k hk (fld_ok hKE.1 hf) (fun _ h => h) hv hd (K H locs ls hP hD hS hl)
theorem g_put (C : FX Γ l cc nL own R E) (o : Nat) {ci idx k N : Nat} {Cn : String} {T : u_T} {fs : List Value} {v : Value} {ty : FieldType} (σ' : ST) (hd : decode cc pc = .ok (.putfield idx, 3)) (hc : CLS ci Cn T N) (hf : FLD own idx T k) (ty0 : Nat → FieldType) (hty : ∀ k, k < N → parseFieldDescriptor (T k).2.2.1 = some (ty0 k)) (hnm : ∀ a, a < N → ∀ b, b < N → a ≠ b → (T a).2.1 ≠ (T b).2.1) (ho : o < 40) (hk : k < N) (hfin : (T k).2.2.2 = false) (ht : ty0 k = ty) (hn : narrow ty v = v) (hfit : fits ty v = true) (hw : wc E σ o = .inr (ci, fs)) (hlen : k < fs.length)
    (hw' : wc E σ' o = .inr (ci, fs.set k v)) (h2 : ∀ j, j ≠ o → σ'.1 j = σ.1 j ∧ σ'.2.1 j = σ.2.1 j) (h4 : σ'.2.2 = σ.2.2) (K : GW Γ nL E σ' (pc + 3) lv st) : GW Γ nL E σ pc lv (v :: .ref (E.2.1 o) :: st) := by
  obtain ⟨p, l', e, R', s, m, args, below, meth, c, cs, A, Q⟩ := Γ
  obtain ⟨hx, hb, hml, hown, hR', hl', hKE, hHE, hA, -⟩ := C
  intro H locs ls hP hD hS hl
  have hset : (wd E σ).set o (E.2.1 o, .inr (ci, fs.set k v)) = wd E σ' := wd_set ho hw' h2 (Or.inr (by rw [h4])) (by rw [h4])
  refine va_put (D := E.1) (ty := ty) (Ts := u_ws Cn T N) hx hb (fun w h => hKE.1 w (hc.2 w h).1 (hc.2 w h).2 args) (fun _ h => h) ty0 hty hnm hown hKE.2.1 hP hD hS o (by rw [wd_at E σ ho, hw]) hc.1 k hk (fld_ok hKE.1 hf) (fun _ h => h) hfin (by rw [← ht]; exact hty k hk) hn hfit hlen hd (fun H1 locs1 hP1 hD1 hS1 => ?_)
  rw [hset] at hP1 hD1
  exact K H1 locs1 ls hP1 hD1 hS1 hl
theorem g_iald (C : FX Γ l cc nL own R E) (o : Nat) {n : Nat} {f : Nat → Int32} {i : Int32} (hd : decode cc pc = .ok (.iaload, 1)) (ho : o < 40) (hw : wc E σ o = .inl (E.2.2.1.1, n, .inl f)) (hi : vp_in i n) (K : GW Γ nL E σ (pc + 1) lv (.int (f i.toNatClampNeg) :: st)) : GW Γ nL E σ pc lv (.int i :: .ref (E.2.1 o) :: st) := by
  obtain ⟨p, l', e, R', s, m, args, below, meth, c, cs, A, Q⟩ := Γ
  obtain ⟨hx, hb, hml, hown, hR', hl', hKE, hHE, hA, -⟩ := C
  intro H locs ls hP hD hS hl
  exact va_iald hx hb hKE.2.1 hP o 0 (by rw [wd_at E σ ho, hw]) rfl hi hd (K H locs ls hP hD hS hl)
theorem g_iast (C : FX Γ l cc nL own R E) (o : Nat) {n : Nat} {i x : Int32} (σ' : ST) (hd : decode cc pc = .ok (.iastore, 1)) (ho : o < 40) (hw : ∀ τ : ST, wc E τ o = .inl (E.2.2.1.1, n, .inl (τ.1 o))) (hi : vp_in i n) (hσ : σ' = (va_up σ.1 o (va_up (σ.1 o) i.toNatClampNeg x), σ.2)) (K : GW Γ nL E σ' (pc + 1) lv st) : GW Γ nL E σ pc lv (.int x :: .int i :: .ref (E.2.1 o) :: st) := by
  obtain ⟨p, l', e, R', s, m, args, below, meth, c, cs, A, Q⟩ := Γ
  obtain ⟨hx, hb, hml, hown, hR', hl', hKE, hHE, hA, -⟩ := C
  subst hσ
  intro H locs ls hP hD hS hl
  have hset : (wd E σ).set o (E.2.1 o, .inl (E.2.2.1.1, n, .inl (upd (σ.1 o) i.toNatClampNeg x))) = wd E (va_up σ.1 o (va_up (σ.1 o) i.toNatClampNeg x), σ.2) := by
    refine wd_set ho ?_ (fun j hj => ⟨va_up_ne _ _ hj, rfl⟩) (Or.inr rfl) rfl
    rw [hw]
    show Sum.inl (E.2.2.1.1, n, Sum.inl (va_up σ.1 o (va_up (σ.1 o) i.toNatClampNeg x) o)) = _
    rw [va_up_self]
    rfl
  refine va_iast hx hb hKE.2.1 hP hD hS o 0 (by rw [wd_at E σ ho, hw]) rfl hi hd (fun H1 locs1 hP1 hD1 hS1 => ?_)
  rw [hset] at hP1 hD1
  exact K H1 locs1 ls hP1 hD1 hS1 hl
theorem g_lald (C : FX Γ l cc nL own R E) {i : Int32} (hd : decode cc pc = .ok (.laload, 1)) (hi : vp_in i 1024) (K : GW Γ nL E σ (pc + 1) lv (.long (σ.2.1 13 i.toNatClampNeg) :: st)) : GW Γ nL E σ pc lv (.int i :: .ref (E.2.1 13) :: st) := by
  obtain ⟨p, l', e, R', s, m, args, below, meth, c, cs, A, Q⟩ := Γ
  obtain ⟨hx, hb, hml, hown, hR', hl', hKE, hHE, hA, -⟩ := C
  intro H locs ls hP hD hS hl
  exact va_lald hx hb hKE.2.1 hP 13 1 (by rw [wd_at E σ (by decide)]; rfl) rfl hi hd (K H locs ls hP hD hS hl)
theorem g_last (C : FX Γ l cc nL own R E) {i : Int32} {x : Int64} (σ' : ST) (hd : decode cc pc = .ok (.lastore, 1)) (hi : vp_in i 1024) (hσ : σ' = (σ.1, va_up σ.2.1 13 (va_up (σ.2.1 13) i.toNatClampNeg x), σ.2.2)) (K : GW Γ nL E σ' (pc + 1) lv st) : GW Γ nL E σ pc lv (.long x :: .int i :: .ref (E.2.1 13) :: st) := by
  obtain ⟨p, l', e, R', s, m, args, below, meth, c, cs, A, Q⟩ := Γ
  obtain ⟨hx, hb, hml, hown, hR', hl', hKE, hHE, hA, -⟩ := C
  subst hσ
  intro H locs ls hP hD hS hl
  have hset : (wd E σ).set 13 (E.2.1 13, .inl (E.2.2.1.2.1, 1024, .inr (.inl (vp_updL (σ.2.1 13) i.toNatClampNeg x)))) = wd E (σ.1, va_up σ.2.1 13 (va_up (σ.2.1 13) i.toNatClampNeg x), σ.2.2) := by
    refine wd_set (by decide) rfl (fun j hj => ⟨rfl, va_up_ne _ _ hj⟩) (Or.inr rfl) rfl
  refine va_last hx hb hKE.2.1 hP hD hS 13 1 (by rw [wd_at E σ (by decide)]; rfl) rfl hi hd (fun H1 locs1 hP1 hD1 hS1 => ?_)
  rw [hset] at hP1 hD1
  exact K H1 locs1 ls hP1 hD1 hS1 hl
theorem g_aald (C : FX Γ l cc nL own R E) {i : Int32} (hd : decode cc pc = .ok (.aaload, 1)) (hi : vp_in i 8) (K : GW Γ nL E σ (pc + 1) lv (va_rf (σ.2.2.1 i.toNatClampNeg) :: st)) : GW Γ nL E σ pc lv (.int i :: .ref (E.2.1 5) :: st) := by
  obtain ⟨p, l', e, R', s, m, args, below, meth, c, cs, A, Q⟩ := Γ
  obtain ⟨hx, hb, hml, hown, hR', hl', hKE, hHE, hA, -⟩ := C
  intro H locs ls hP hD hS hl
  exact va_aldq hx hb hKE.2.1 hP 5 2 (by rw [wd_at E σ (by decide)]; rfl) rfl hi hd (K H locs ls hP hD hS hl)
theorem g_alen (C : FX Γ l cc nL own R E) (o t0 : Nat) {cA : ClassId} {x : vp_A} {ty : FieldType} {v : Int32} (hd : decode cc pc = .ok (.arraylength, 1)) (ho : o < 40) (hw : wc E σ o = .inl (cA, x)) (ht : [(E.2.2.1.1, FieldType.int), (E.2.2.1.2.1, .long), (E.2.2.1.2.2, .object "KeyStreets$Street")][t0]? = some (cA, ty)) (hv : Int32.ofNat x.1 = v) (K : GW Γ nL E σ (pc + 1) lv (.int v :: st)) : GW Γ nL E σ pc lv (.ref (E.2.1 o) :: st) := by
  obtain ⟨p, l', e, R', s, m, args, below, meth, c, cs, A, Q⟩ := Γ
  obtain ⟨hx, hb, hml, hown, hR', hl', hKE, hHE, hA, -⟩ := C
  intro H locs ls hP hD hS hl
  exact va_alen hx hb hKE.2.1 hP o t0 (by rw [wd_at E σ ho, hw]) ht hv hd (K H locs ls hP hD hS hl)
/-- behind a call -/
theorem g_after {p : Program} {e : Env} {s : State} {m : MethodId} {args : Array Value} {below : List Frame} {meth : Method} {c : Code} {H : Heap} {locs : List Loc} {cells slots : Nat} {Q : State → Prop} {ls : Array Slot} {rest st0 : List Value} {A0 A1 : Nat → Prop} {H0 : Heap} {free : Addr → Prop} {r : Option Value} {σ' : ST}
    (hr : va_Run p l e R s m args below meth c H locs cells slots 0 0 (F0 m pc ls st0) rest (fun st oc t => oc = .returned r ∧ va_P E.1 vwCl (wd E σ') t.heap ∧ va_D A1 (wd E σ') ∧ va_F A1 st t) free) (hS : va_S A0 H0 H locs) (hA : ∀ q, A1 q → A0 q) (hf : ∀ q, free q → A0 q)
    (kk : ∀ (H1 : Heap) (locs1 : List Loc), va_P E.1 vwCl (wd E σ') H1 → va_D A0 (wd E σ') → va_S A0 H0 H1 locs1 → W p l e R s m args below meth c H1 locs1 cells slots Q (F0 m (pc + 3) ls (r.toList ++ rest))) : W p l e R s m args below meth c H locs cells slots Q (F0 m pc ls st0) := by
  intro T hT X
  obtain ⟨v, st₀, t, T', L, h0, X', hL, e1, e2, ⟨hv, hP, hD, hz, hk⟩, st⟩ := hr T hT X
  cases hv
  rw [h0] at hz hk
  obtain ⟨t2, a1, b1⟩ := kk T'.heap (locs ++ L) (by rw [e1]; exact hP) (hD.weaken (fun _ _ _ h => hA _ h))
    ⟨Nat.le_trans hS.1 (by rw [e1]; exact hz), fun q h1 h2 => by rw [e1, hk q (Nat.lt_of_lt_of_le h1 hS.1) (fun z => h2 (hA q z))]; exact hS.2.1 q h1 h2, fun q hq => by
      rcases List.mem_append.mp hq with h | h
      · exact hS.2.2 q h
      · exact hf _ (hL q h)⟩ T' rfl X'
  exact ⟨t2, st t2 a1, b1⟩
theorem g_free {A0 : Nat → Prop} {H0 H : Heap} {locs : List Loc} (hD : va_D A0 (wd E σ)) (hS : va_S A0 H0 H locs) (hA : ∀ q, H0.size ≤ q → A0 q) : ∀ q, va_A (wd E σ) H.size q → A0 q := by
  intro q h
  rcases h with ⟨k, e, h⟩ | h
  · exact hD.2 k _ h
  · exact hA q (Nat.le_trans hS.1 h)
theorem g_pre {A0 : Nat → Prop} {s : State} {H : Heap} {locs : List Loc} (hKE : KE E s) (hHE : HE E A0 s s.heap) (hA : ∀ q, s.heap.size ≤ q → A0 q) (hP : va_P E.1 vwCl (wd E σ) H) (hD : va_D A0 (wd E σ)) (hS : va_S A0 s.heap H locs) (as : List Value) : PreS s H (va_Pc as (PRE E σ H.size)) as := by
  refine ⟨fun a U g mk h => ⟨h.1, h.2.calling⟩, fun U hU hW => ⟨rfl, by rw [hU], by rw [hU]; exact hP, hD.weaken (fun _ _ _ _ => trivial), hKE.warm hW, ?_⟩⟩
  rw [hU]
  exact HE.moved hW.alike ((hHE.kept hS.2.1).narrow (g_free hD hS hA))
/-- what a call of y from own's code needs of the tables: of a static one, of one of an object -/
def LKB (own : String) (idx : Nat) (y : MethodName) (bytes : ByteArray) (maxL : Nat) (ret : Option FieldType) (n : Nat) : Prop :=
  (Cond.code y bytes maxL ret ∈ lw_tbl) ∧ (Cond.initialized y.cls ∈ lw_tbl) ∧ (y.cls ≠ "java/lang/invoke/MethodHandle" ∧ y.cls ≠ "java/lang/invoke/VarHandle") ∧ ((parseMethodDescriptor y.desc).map (fun d => d.parameters.length) = some n) ∧ (Cond.methodLink own idx y ∈ lw_tbl)
def LKS (own : String) (idx : Nat) (y : MethodName) (bytes : ByteArray) (maxL : Nat) (ret : Option FieldType) (n : Nat) : Prop := LKB own idx y bytes maxL ret n ∧ Cond.static y ∈ lw_tbl
def LKV (own C : String) (idx : Nat) (y : MethodName) (bytes : ByteArray) (maxL : Nat) (ret : Option FieldType) (n : Nat) : Prop := LKB own idx y bytes maxL ret n ∧ Cond.instanceMethod y ∈ lw_tbl ∧ Cond.selects C y y ∈ lw_tbl
def FIT (R rm : Room) (maxL : Nat) : Prop := rm.cells = 0 ∧ rm.slots = 0 ∧ rm.frames + 1 ≤ R.frames ∧ 8 + (maxL + 11) + rm.locals ≤ R.locals
theorem g_callB {s : State} {args : Array Value} {idx maxL n : Nat} {y : MethodName} {bytes : ByteArray} {ret : Option FieldType} {rm : Room} (hK : KT s) (h : LKB own idx y bytes maxL ret n) (hR : FIT R rm maxL) : CallB R s args own idx y bytes maxL ret [.code y bytes maxL ret] rm 0 0 n :=
  ⟨hR.1, hR.2.1, hR.2.2.1, hR.2.2.2, fun w hw a' U hW => by rw [List.mem_singleton.mp hw]; exact (hK.warm hW) _ h.1 rfl a', List.mem_singleton.mpr rfl, hK _ h.1 rfl args, hK _ h.2.1 rfl args, h.2.2.1, fun sig hs => by have h2 := h.2.2.2.1; rw [hs] at h2; exact (Option.some.inj h2).symm, hK _ h.2.2.2.2 rfl args⟩
theorem g_callS (C : FX Γ l cc nL own R E) {idx maxL n : Nat} {y : MethodName} {bytes : ByteArray} {ret : Option FieldType} {rm : Room} {as : List Value} {r : Option Value} {σ' : ST} (hM : CT l E y bytes maxL ret rm as σ r σ') (hk : LKS own idx y bytes maxL ret n) (hR : FIT R rm maxL) (hn : as.length = n) (hroom : (st.map fun v => v.category).sum ≤ 8) (hd : decode cc pc = .ok (.invokestatic idx, 3)) (st0 : List Value) (hst : st0 = as.reverse ++ st) (K : GW Γ nL E σ' (pc + 3) lv (r.toList ++ st)) : GW Γ nL E σ pc lv st0 := by
  obtain ⟨p, l', e, R', s, m, args, below, meth, c, cs, A, Q⟩ := Γ
  obtain ⟨hx, hb, hml, hown, rfl, rfl, hKE, hHE, hA, hc1, hc2⟩ := C
  intro H locs ls hP hD hS hl
  have hfr := g_free hD hS hA
  exact g_after (va_runS (Ts := []) ⟨hx, hb, hml, hown, fun _ h => absurd h List.not_mem_nil⟩ (hM H.size) ⟨g_callB hKE.1 hk.1 hR, hKE.1 _ hk.2 rfl args⟩ (g_pre hKE hHE hA hP hD hS as) rfl hn hl.1 hst (lv_room hroom) hd ⟨hc1, hc2⟩) hS hfr hfr (fun H1 locs1 a1 a2 a3 => K H1 locs1 ls a1 a2 a3 hl)
theorem g_callV (C : FX Γ l cc nL own R E) (o : Nat) {ci idx maxL n N : Nat} {y : MethodName} {bytes : ByteArray} {ret : Option FieldType} {rm : Room} {Cn : String} {T : u_T} {fs : List Value} {as : List Value} {r : Option Value} {σ' : ST} (hM : CT l E y bytes maxL ret rm (.ref (E.2.1 o) :: as) σ r σ') (hc : CLS ci Cn T N) (hk : LKV own Cn idx y bytes maxL ret n) (hR : FIT R rm maxL) (ho : o < 40) (hw : wc E σ o = .inr (ci, fs)) (hn : as.length = n) (hroom : (st.map fun v => v.category).sum ≤ 8) (hd : decode cc pc = .ok (.invokevirtual idx, 3)) (st0 : List Value) (hst : st0 = as.reverse ++ .ref (E.2.1 o) :: st) (K : GW Γ nL E σ' (pc + 3) lv (r.toList ++ st)) : GW Γ nL E σ pc lv st0 := by
  obtain ⟨p, l', e, R', s, m, args, below, meth, c, cs, A, Q⟩ := Γ
  obtain ⟨hx, hb, hml, hown, rfl, rfl, hKE, hHE, hA, hc1, hc2⟩ := C
  intro H locs ls hP hD hS hl
  have hfr := g_free hD hS hA
  have hpre := g_pre hKE hHE hA hP hD hS (.ref (E.2.1 o) :: as)
  exact g_after (va_runV (Ts := []) (C := Cn) ⟨hx, hb, hml, hown, fun _ h => absurd h List.not_mem_nil⟩ (hM H.size) ⟨g_callB hKE.1 hk.1 hR, hKE.1 _ hk.2.1 rfl args, hKE.1 _ hk.2.2 rfl args⟩ ⟨hpre.1, va_recv hKE.2.1 hP (q0 := o) hc.1 (by rw [wd_at E σ ho, hw]), hpre.2⟩ rfl hn hl.1 hst (lv_room hroom) hd ⟨hc1, hc2⟩) hS hfr hfr (fun H1 locs1 a1 a2 a3 => K H1 locs1 ls a1 a2 a3 hl)
theorem g_ldc (C : FX Γ l cc nL own R E) {idx : Nat} {v : Int32} (hd : decode cc pc = .ok (.ldc idx, 2)) (hk : Cond.constant own idx v ∈ lw_tbl) (K : GW Γ nL E σ (pc + 2) lv (.int v :: st)) : GW Γ nL E σ pc lv st := by
  obtain ⟨p, l', e, R', s, m, args, below, meth, c, cs, A, Q⟩ := Γ
  obtain ⟨hx, hb, hml, hown, hR', hl', hKE, hHE, hA, -⟩ := C
  intro H locs ls hP hD hS hl
  exact lv_ldc hx hb hown (hKE.1 _ hk rfl args) hd (K H locs ls hP hD hS hl)
theorem g_ldc2 (C : FX Γ l cc nL own R E) {idx : Nat} {v : Int64} (hd : decode cc pc = .ok (.ldc2_w idx, 3)) (hk : Cond.constantLong own idx v ∈ lw_tbl) (K : GW Γ nL E σ (pc + 3) lv (.long v :: st)) : GW Γ nL E σ pc lv st := by
  obtain ⟨p, l', e, R', s, m, args, below, meth, c, cs, A, Q⟩ := Γ
  obtain ⟨hx, hb, hml, hown, hR', hl', hKE, hHE, hA, -⟩ := C
  intro H locs ls hP hD hS hl
  exact lv_ldc2 hx hb hown (hKE.1 _ hk rfl args) hd (K H locs ls hP hD hS hl)
theorem g_tabIn (C : FX Γ l cc nL own R E) {dflt lo hi : Int} {offs : Array Int} {len : Nat} {x : Int32} (v : Int32) {off : Int} {tgt : Nat} (hd : decode cc pc = .ok (.tableswitch dflt lo hi offs, len)) (hx : x = v) (h1 : ¬ v.toInt < lo) (h2 : ¬ hi < v.toInt) (ho : offs[(v.toInt - lo).toNat]? = some off) (ht : (pc : Int) + off = (tgt : Int)) (K : GW Γ nL E σ tgt lv st) : GW Γ nL E σ pc lv (.int x :: st) := by
  obtain ⟨p, l', e, R', s, m, args, below, meth, c, cs, A, Q⟩ := Γ
  subst hx
  intro H locs ls hP hD hS hl
  exact lv_tableIn C.1 C.2.1 hd h1 h2 ho ht (K H locs ls hP hD hS hl)
theorem g_tabOut (C : FX Γ l cc nL own R E) {dflt lo hi : Int} {offs : Array Int} {len : Nat} {x : Int32} {tgt : Nat} (hd : decode cc pc = .ok (.tableswitch dflt lo hi offs, len)) (h : x.toInt < lo ∨ hi < x.toInt) (ht : (pc : Int) + dflt = (tgt : Int)) (K : GW Γ nL E σ tgt lv st) : GW Γ nL E σ pc lv (.int x :: st) := by
  obtain ⟨p, l', e, R', s, m, args, below, meth, c, cs, A, Q⟩ := Γ
  intro H locs ls hP hD hS hl
  exact lv_tableOut C.1 C.2.1 hd h ht (K H locs ls hP hD hS hl)
theorem g_lookup (C : FX Γ l cc nL own R E) {dflt : Int} {ps : Array (Int × Int)} {len : Nat} {x : Int32} {off : Int} {tgt : Nat} (hd : decode cc pc = .ok (.lookupswitch dflt ps, len)) (hp : (ps.toList.zip (ps.toList.drop 1)).all (fun (a, next) => a.1 < next.1) = true) (ho : Op.lookupswitch.offset ps.toList dflt x.toInt = off) (ht : (pc : Int) + off = (tgt : Int)) (K : GW Γ nL E σ tgt lv st) : GW Γ nL E σ pc lv (.int x :: st) := by
  obtain ⟨p, l', e, R', s, m, args, below, meth, c, cs, A, Q⟩ := Γ
  intro H locs ls hP hD hS hl
  exact lv_lookup C.1 C.2.1 hd hp ho ht (K H locs ls hP hD hS hl)
end RULES
/-! Java's own numbers, by name -/
def j_shl (x y : Int32) : Int32 := x <<< (y &&& 31)
def j_shr (x y : Int32) : Int32 := x >>> (y &&& 31)
def j_rem (x y : Int32) : Int32 := x - x / y * y
def j_lrem (x y : Int64) : Int64 := x - x / y * y
def j_lushr (x : Int64) (y : Int32) : Int64 := (x.toUInt64 >>> (y.toInt64.toUInt64 &&& Int64.toUInt64 63)).toInt64
def j_lshl (x : Int64) (y : Int32) : Int64 := x <<< (y.toInt64 &&& 63)
def j_i2c (x : Int32) : Int32 := (x.toUInt32 % 65536).toInt32
/-- state with one int, one long changed -/
def uI (σ : ST) (o k : Nat) (x : Int32) : ST := (va_up σ.1 o (va_up (σ.1 o) k x), σ.2)
def uL (σ : ST) (o k : Nat) (x : Int64) : ST := (σ.1, va_up σ.2.1 o (va_up (σ.2.1 o) k x), σ.2.2)
def uA (σ : ST) (o : Nat) (f : Nat → Int32) : ST := (va_up σ.1 o f, σ.2)
theorem o_bind {α β : Type} {x : Option α} {f : α → Option β} {y : β} (h : x.bind f = some y) : ∃ a, x = some a ∧ f a = some y := Option.bind_eq_some_iff.mp h
theorem o_if {α : Type} {c : Prop} [Decidable c] {x : Option α} {y : α} (h : (if c then x else none) = some y) : c ∧ x = some y := by
  by_cases hc : c
  · rw [if_pos hc] at h; exact ⟨hc, h⟩
  · rw [if_neg hc] at h; cases h

theorem g_iadd {Γ : CX} {l : Launch} {cc : ByteArray} {nL : Nat} {own : String} {R : Room} {E : EV} {σ : ST} {pc : Nat} {lv : List (Nat × Value)} {st : List Value} (C : FX Γ l cc nL own R E) {x y : Int32} (hd : decode cc pc = .ok (.iadd, 1))  (K : GW Γ nL E σ (pc + 1) lv (.int (x + y) :: st)) : GW Γ nL E σ pc lv (.int y :: .int x :: st) := by
  obtain ⟨p, l', e, R', s, m, args, below, meth, c, ⟨cells, slots⟩, A, Q⟩ := Γ
  intro H locs ls hP hD hS hl
  exact lv_iadd C.1 C.2.1 hd (K H locs ls hP hD hS hl)
theorem g_isub {Γ : CX} {l : Launch} {cc : ByteArray} {nL : Nat} {own : String} {R : Room} {E : EV} {σ : ST} {pc : Nat} {lv : List (Nat × Value)} {st : List Value} (C : FX Γ l cc nL own R E) {x y : Int32} (hd : decode cc pc = .ok (.isub, 1))  (K : GW Γ nL E σ (pc + 1) lv (.int (x - y) :: st)) : GW Γ nL E σ pc lv (.int y :: .int x :: st) := by
  obtain ⟨p, l', e, R', s, m, args, below, meth, c, ⟨cells, slots⟩, A, Q⟩ := Γ
  intro H locs ls hP hD hS hl
  exact lv_isub C.1 C.2.1 hd (K H locs ls hP hD hS hl)
theorem g_imul {Γ : CX} {l : Launch} {cc : ByteArray} {nL : Nat} {own : String} {R : Room} {E : EV} {σ : ST} {pc : Nat} {lv : List (Nat × Value)} {st : List Value} (C : FX Γ l cc nL own R E) {x y : Int32} (hd : decode cc pc = .ok (.imul, 1))  (K : GW Γ nL E σ (pc + 1) lv (.int (x * y) :: st)) : GW Γ nL E σ pc lv (.int y :: .int x :: st) := by
  obtain ⟨p, l', e, R', s, m, args, below, meth, c, ⟨cells, slots⟩, A, Q⟩ := Γ
  intro H locs ls hP hD hS hl
  exact lv_imul C.1 C.2.1 hd (K H locs ls hP hD hS hl)
theorem g_iand {Γ : CX} {l : Launch} {cc : ByteArray} {nL : Nat} {own : String} {R : Room} {E : EV} {σ : ST} {pc : Nat} {lv : List (Nat × Value)} {st : List Value} (C : FX Γ l cc nL own R E) {x y : Int32} (hd : decode cc pc = .ok (.iand, 1))  (K : GW Γ nL E σ (pc + 1) lv (.int (x &&& y) :: st)) : GW Γ nL E σ pc lv (.int y :: .int x :: st) := by
  obtain ⟨p, l', e, R', s, m, args, below, meth, c, ⟨cells, slots⟩, A, Q⟩ := Γ
  intro H locs ls hP hD hS hl
  exact lv_iand C.1 C.2.1 hd (K H locs ls hP hD hS hl)
theorem g_ior {Γ : CX} {l : Launch} {cc : ByteArray} {nL : Nat} {own : String} {R : Room} {E : EV} {σ : ST} {pc : Nat} {lv : List (Nat × Value)} {st : List Value} (C : FX Γ l cc nL own R E) {x y : Int32} (hd : decode cc pc = .ok (.ior, 1))  (K : GW Γ nL E σ (pc + 1) lv (.int (x ||| y) :: st)) : GW Γ nL E σ pc lv (.int y :: .int x :: st) := by
  obtain ⟨p, l', e, R', s, m, args, below, meth, c, ⟨cells, slots⟩, A, Q⟩ := Γ
  intro H locs ls hP hD hS hl
  exact lv_ior C.1 C.2.1 hd (K H locs ls hP hD hS hl)
theorem g_ishl {Γ : CX} {l : Launch} {cc : ByteArray} {nL : Nat} {own : String} {R : Room} {E : EV} {σ : ST} {pc : Nat} {lv : List (Nat × Value)} {st : List Value} (C : FX Γ l cc nL own R E) {x y : Int32} (hd : decode cc pc = .ok (.ishl, 1))  (K : GW Γ nL E σ (pc + 1) lv (.int (j_shl x y) :: st)) : GW Γ nL E σ pc lv (.int y :: .int x :: st) := by
  obtain ⟨p, l', e, R', s, m, args, below, meth, c, ⟨cells, slots⟩, A, Q⟩ := Γ
  intro H locs ls hP hD hS hl
  exact lv_ishl C.1 C.2.1 hd (K H locs ls hP hD hS hl)
theorem g_ishr {Γ : CX} {l : Launch} {cc : ByteArray} {nL : Nat} {own : String} {R : Room} {E : EV} {σ : ST} {pc : Nat} {lv : List (Nat × Value)} {st : List Value} (C : FX Γ l cc nL own R E) {x y : Int32} (hd : decode cc pc = .ok (.ishr, 1))  (K : GW Γ nL E σ (pc + 1) lv (.int (j_shr x y) :: st)) : GW Γ nL E σ pc lv (.int y :: .int x :: st) := by
  obtain ⟨p, l', e, R', s, m, args, below, meth, c, ⟨cells, slots⟩, A, Q⟩ := Γ
  intro H locs ls hP hD hS hl
  exact lv_ishr C.1 C.2.1 hd (K H locs ls hP hD hS hl)
theorem g_ladd {Γ : CX} {l : Launch} {cc : ByteArray} {nL : Nat} {own : String} {R : Room} {E : EV} {σ : ST} {pc : Nat} {lv : List (Nat × Value)} {st : List Value} (C : FX Γ l cc nL own R E) {x y : Int64} (hd : decode cc pc = .ok (.ladd, 1))  (K : GW Γ nL E σ (pc + 1) lv (.long (x + y) :: st)) : GW Γ nL E σ pc lv (.long y :: .long x :: st) := by
  obtain ⟨p, l', e, R', s, m, args, below, meth, c, ⟨cells, slots⟩, A, Q⟩ := Γ
  intro H locs ls hP hD hS hl
  exact lv_ladd C.1 C.2.1 hd (K H locs ls hP hD hS hl)
theorem g_lsub {Γ : CX} {l : Launch} {cc : ByteArray} {nL : Nat} {own : String} {R : Room} {E : EV} {σ : ST} {pc : Nat} {lv : List (Nat × Value)} {st : List Value} (C : FX Γ l cc nL own R E) {x y : Int64} (hd : decode cc pc = .ok (.lsub, 1))  (K : GW Γ nL E σ (pc + 1) lv (.long (x - y) :: st)) : GW Γ nL E σ pc lv (.long y :: .long x :: st) := by
  obtain ⟨p, l', e, R', s, m, args, below, meth, c, ⟨cells, slots⟩, A, Q⟩ := Γ
  intro H locs ls hP hD hS hl
  exact lv_lsub C.1 C.2.1 hd (K H locs ls hP hD hS hl)
theorem g_lmul {Γ : CX} {l : Launch} {cc : ByteArray} {nL : Nat} {own : String} {R : Room} {E : EV} {σ : ST} {pc : Nat} {lv : List (Nat × Value)} {st : List Value} (C : FX Γ l cc nL own R E) {x y : Int64} (hd : decode cc pc = .ok (.lmul, 1))  (K : GW Γ nL E σ (pc + 1) lv (.long (x * y) :: st)) : GW Γ nL E σ pc lv (.long y :: .long x :: st) := by
  obtain ⟨p, l', e, R', s, m, args, below, meth, c, ⟨cells, slots⟩, A, Q⟩ := Γ
  intro H locs ls hP hD hS hl
  exact lv_lmul C.1 C.2.1 hd (K H locs ls hP hD hS hl)
theorem g_land {Γ : CX} {l : Launch} {cc : ByteArray} {nL : Nat} {own : String} {R : Room} {E : EV} {σ : ST} {pc : Nat} {lv : List (Nat × Value)} {st : List Value} (C : FX Γ l cc nL own R E) {x y : Int64} (hd : decode cc pc = .ok (.land, 1))  (K : GW Γ nL E σ (pc + 1) lv (.long (x &&& y) :: st)) : GW Γ nL E σ pc lv (.long y :: .long x :: st) := by
  obtain ⟨p, l', e, R', s, m, args, below, meth, c, ⟨cells, slots⟩, A, Q⟩ := Γ
  intro H locs ls hP hD hS hl
  exact lv_land C.1 C.2.1 hd (K H locs ls hP hD hS hl)
theorem g_lor {Γ : CX} {l : Launch} {cc : ByteArray} {nL : Nat} {own : String} {R : Room} {E : EV} {σ : ST} {pc : Nat} {lv : List (Nat × Value)} {st : List Value} (C : FX Γ l cc nL own R E) {x y : Int64} (hd : decode cc pc = .ok (.lor, 1))  (K : GW Γ nL E σ (pc + 1) lv (.long (x ||| y) :: st)) : GW Γ nL E σ pc lv (.long y :: .long x :: st) := by
  obtain ⟨p, l', e, R', s, m, args, below, meth, c, ⟨cells, slots⟩, A, Q⟩ := Γ
  intro H locs ls hP hD hS hl
  exact lv_lor C.1 C.2.1 hd (K H locs ls hP hD hS hl)
theorem g_lxor {Γ : CX} {l : Launch} {cc : ByteArray} {nL : Nat} {own : String} {R : Room} {E : EV} {σ : ST} {pc : Nat} {lv : List (Nat × Value)} {st : List Value} (C : FX Γ l cc nL own R E) {x y : Int64} (hd : decode cc pc = .ok (.lxor, 1))  (K : GW Γ nL E σ (pc + 1) lv (.long (x ^^^ y) :: st)) : GW Γ nL E σ pc lv (.long y :: .long x :: st) := by
  obtain ⟨p, l', e, R', s, m, args, below, meth, c, ⟨cells, slots⟩, A, Q⟩ := Γ
  intro H locs ls hP hD hS hl
  exact lv_lxor C.1 C.2.1 hd (K H locs ls hP hD hS hl)
theorem g_idiv {Γ : CX} {l : Launch} {cc : ByteArray} {nL : Nat} {own : String} {R : Room} {E : EV} {σ : ST} {pc : Nat} {lv : List (Nat × Value)} {st : List Value} (C : FX Γ l cc nL own R E) {x y : Int32} (hd : decode cc pc = .ok (.idiv, 1)) (hne : ¬ y = 0) (K : GW Γ nL E σ (pc + 1) lv (.int (x / y) :: st)) : GW Γ nL E σ pc lv (.int y :: .int x :: st) := by
  obtain ⟨p, l', e, R', s, m, args, below, meth, c, ⟨cells, slots⟩, A, Q⟩ := Γ
  intro H locs ls hP hD hS hl
  exact lv_idiv C.1 C.2.1 hd hne (K H locs ls hP hD hS hl)
theorem g_irem {Γ : CX} {l : Launch} {cc : ByteArray} {nL : Nat} {own : String} {R : Room} {E : EV} {σ : ST} {pc : Nat} {lv : List (Nat × Value)} {st : List Value} (C : FX Γ l cc nL own R E) {x y : Int32} (hd : decode cc pc = .ok (.irem, 1)) (hne : ¬ y = 0) (K : GW Γ nL E σ (pc + 1) lv (.int (j_rem x y) :: st)) : GW Γ nL E σ pc lv (.int y :: .int x :: st) := by
  obtain ⟨p, l', e, R', s, m, args, below, meth, c, ⟨cells, slots⟩, A, Q⟩ := Γ
  intro H locs ls hP hD hS hl
  exact lv_irem C.1 C.2.1 hd hne (K H locs ls hP hD hS hl)
theorem g_ldiv {Γ : CX} {l : Launch} {cc : ByteArray} {nL : Nat} {own : String} {R : Room} {E : EV} {σ : ST} {pc : Nat} {lv : List (Nat × Value)} {st : List Value} (C : FX Γ l cc nL own R E) {x y : Int64} (hd : decode cc pc = .ok (.ldiv, 1)) (hne : ¬ y = 0) (K : GW Γ nL E σ (pc + 1) lv (.long (x / y) :: st)) : GW Γ nL E σ pc lv (.long y :: .long x :: st) := by
  obtain ⟨p, l', e, R', s, m, args, below, meth, c, ⟨cells, slots⟩, A, Q⟩ := Γ
  intro H locs ls hP hD hS hl
  exact lv_ldiv C.1 C.2.1 hd hne (K H locs ls hP hD hS hl)
theorem g_lrem {Γ : CX} {l : Launch} {cc : ByteArray} {nL : Nat} {own : String} {R : Room} {E : EV} {σ : ST} {pc : Nat} {lv : List (Nat × Value)} {st : List Value} (C : FX Γ l cc nL own R E) {x y : Int64} (hd : decode cc pc = .ok (.lrem, 1)) (hne : ¬ y = 0) (K : GW Γ nL E σ (pc + 1) lv (.long (j_lrem x y) :: st)) : GW Γ nL E σ pc lv (.long y :: .long x :: st) := by
  obtain ⟨p, l', e, R', s, m, args, below, meth, c, ⟨cells, slots⟩, A, Q⟩ := Γ
  intro H locs ls hP hD hS hl
  exact lv_lrem C.1 C.2.1 hd hne (K H locs ls hP hD hS hl)
theorem g_lushr {Γ : CX} {l : Launch} {cc : ByteArray} {nL : Nat} {own : String} {R : Room} {E : EV} {σ : ST} {pc : Nat} {lv : List (Nat × Value)} {st : List Value} (C : FX Γ l cc nL own R E) {x : Int64} {y : Int32} (hd : decode cc pc = .ok (.lushr, 1))  (K : GW Γ nL E σ (pc + 1) lv (.long (j_lushr x y) :: st)) : GW Γ nL E σ pc lv (.int y :: .long x :: st) := by
  obtain ⟨p, l', e, R', s, m, args, below, meth, c, ⟨cells, slots⟩, A, Q⟩ := Γ
  intro H locs ls hP hD hS hl
  exact lv_lushr C.1 C.2.1 hd rfl (K H locs ls hP hD hS hl)
theorem g_lshl {Γ : CX} {l : Launch} {cc : ByteArray} {nL : Nat} {own : String} {R : Room} {E : EV} {σ : ST} {pc : Nat} {lv : List (Nat × Value)} {st : List Value} (C : FX Γ l cc nL own R E) {x : Int64} {y : Int32} (hd : decode cc pc = .ok (.lshl, 1))  (K : GW Γ nL E σ (pc + 1) lv (.long (j_lshl x y) :: st)) : GW Γ nL E σ pc lv (.int y :: .long x :: st) := by
  obtain ⟨p, l', e, R', s, m, args, below, meth, c, ⟨cells, slots⟩, A, Q⟩ := Γ
  intro H locs ls hP hD hS hl
  exact lv_lshl C.1 C.2.1 hd rfl (K H locs ls hP hD hS hl)
theorem g_ineg {Γ : CX} {l : Launch} {cc : ByteArray} {nL : Nat} {own : String} {R : Room} {E : EV} {σ : ST} {pc : Nat} {lv : List (Nat × Value)} {st : List Value} (C : FX Γ l cc nL own R E) {x : Int32} (hd : decode cc pc = .ok (.ineg, 1))  (K : GW Γ nL E σ (pc + 1) lv (.int (-x) :: st)) : GW Γ nL E σ pc lv (.int x :: st) := by
  obtain ⟨p, l', e, R', s, m, args, below, meth, c, ⟨cells, slots⟩, A, Q⟩ := Γ
  intro H locs ls hP hD hS hl
  exact lv_ineg C.1 C.2.1 hd (K H locs ls hP hD hS hl)
theorem g_l2i {Γ : CX} {l : Launch} {cc : ByteArray} {nL : Nat} {own : String} {R : Room} {E : EV} {σ : ST} {pc : Nat} {lv : List (Nat × Value)} {st : List Value} (C : FX Γ l cc nL own R E) {x : Int64} (hd : decode cc pc = .ok (.l2i, 1))  (K : GW Γ nL E σ (pc + 1) lv (.int x.toInt32 :: st)) : GW Γ nL E σ pc lv (.long x :: st) := by
  obtain ⟨p, l', e, R', s, m, args, below, meth, c, ⟨cells, slots⟩, A, Q⟩ := Γ
  intro H locs ls hP hD hS hl
  exact lv_l2i C.1 C.2.1 hd rfl (K H locs ls hP hD hS hl)
theorem g_i2l {Γ : CX} {l : Launch} {cc : ByteArray} {nL : Nat} {own : String} {R : Room} {E : EV} {σ : ST} {pc : Nat} {lv : List (Nat × Value)} {st : List Value} (C : FX Γ l cc nL own R E) {x : Int32} (hd : decode cc pc = .ok (.i2l, 1))  (K : GW Γ nL E σ (pc + 1) lv (.long x.toInt64 :: st)) : GW Γ nL E σ pc lv (.int x :: st) := by
  obtain ⟨p, l', e, R', s, m, args, below, meth, c, ⟨cells, slots⟩, A, Q⟩ := Γ
  intro H locs ls hP hD hS hl
  exact lv_i2l C.1 C.2.1 hd rfl (K H locs ls hP hD hS hl)
theorem g_i2c {Γ : CX} {l : Launch} {cc : ByteArray} {nL : Nat} {own : String} {R : Room} {E : EV} {σ : ST} {pc : Nat} {lv : List (Nat × Value)} {st : List Value} (C : FX Γ l cc nL own R E) {x : Int32} (hd : decode cc pc = .ok (.i2c, 1))  (K : GW Γ nL E σ (pc + 1) lv (.int (j_i2c x) :: st)) : GW Γ nL E σ pc lv (.int x :: st) := by
  obtain ⟨p, l', e, R', s, m, args, below, meth, c, ⟨cells, slots⟩, A, Q⟩ := Γ
  intro H locs ls hP hD hS hl
  exact lv_i2c C.1 C.2.1 hd rfl (K H locs ls hP hD hS hl)
theorem g_i2b {Γ : CX} {l : Launch} {cc : ByteArray} {nL : Nat} {own : String} {R : Room} {E : EV} {σ : ST} {pc : Nat} {lv : List (Nat × Value)} {st : List Value} (C : FX Γ l cc nL own R E) {x : Int32} (hd : decode cc pc = .ok (.i2b, 1))  (K : GW Γ nL E σ (pc + 1) lv (.int x.toInt8.toInt32 :: st)) : GW Γ nL E σ pc lv (.int x :: st) := by
  obtain ⟨p, l', e, R', s, m, args, below, meth, c, ⟨cells, slots⟩, A, Q⟩ := Γ
  intro H locs ls hP hD hS hl
  exact lv_i2b C.1 C.2.1 hd rfl (K H locs ls hP hD hS hl)
theorem g_iconst {Γ : CX} {l : Launch} {cc : ByteArray} {nL : Nat} {own : String} {R : Room} {E : EV} {σ : ST} {pc : Nat} {lv : List (Nat × Value)} {st : List Value} (C : FX Γ l cc nL own R E) {n : Int} {v : Int32} (hd : decode cc pc = .ok (.iconst n, 1)) (hv : Int32.ofInt n = v) (K : GW Γ nL E σ (pc + 1) lv (.int v :: st)) : GW Γ nL E σ pc lv (st) := by
  obtain ⟨p, l', e, R', s, m, args, below, meth, c, ⟨cells, slots⟩, A, Q⟩ := Γ
  intro H locs ls hP hD hS hl
  exact lv_iconst C.1 C.2.1 hd hv (K H locs ls hP hD hS hl)
theorem g_bipush {Γ : CX} {l : Launch} {cc : ByteArray} {nL : Nat} {own : String} {R : Room} {E : EV} {σ : ST} {pc : Nat} {lv : List (Nat × Value)} {st : List Value} (C : FX Γ l cc nL own R E) {n : Int} {v : Int32} (hd : decode cc pc = .ok (.bipush n, 2)) (hv : (Int8.ofInt n).toInt32 = v) (K : GW Γ nL E σ (pc + 2) lv (.int v :: st)) : GW Γ nL E σ pc lv (st) := by
  obtain ⟨p, l', e, R', s, m, args, below, meth, c, ⟨cells, slots⟩, A, Q⟩ := Γ
  intro H locs ls hP hD hS hl
  exact lv_bipush C.1 C.2.1 hd hv (K H locs ls hP hD hS hl)
theorem g_sipush {Γ : CX} {l : Launch} {cc : ByteArray} {nL : Nat} {own : String} {R : Room} {E : EV} {σ : ST} {pc : Nat} {lv : List (Nat × Value)} {st : List Value} (C : FX Γ l cc nL own R E) {n : Int} {v : Int32} (hd : decode cc pc = .ok (.sipush n, 3)) (hv : (Int16.ofInt n).toInt32 = v) (K : GW Γ nL E σ (pc + 3) lv (.int v :: st)) : GW Γ nL E σ pc lv (st) := by
  obtain ⟨p, l', e, R', s, m, args, below, meth, c, ⟨cells, slots⟩, A, Q⟩ := Γ
  intro H locs ls hP hD hS hl
  exact lv_sipush C.1 C.2.1 hd hv (K H locs ls hP hD hS hl)
theorem g_lconst {Γ : CX} {l : Launch} {cc : ByteArray} {nL : Nat} {own : String} {R : Room} {E : EV} {σ : ST} {pc : Nat} {lv : List (Nat × Value)} {st : List Value} (C : FX Γ l cc nL own R E) {n : Fin 2} {v : Int64} (hd : decode cc pc = .ok (.lconst n, 1)) (hv : Int64.ofNat (n : Nat) = v) (K : GW Γ nL E σ (pc + 1) lv (.long v :: st)) : GW Γ nL E σ pc lv (st) := by
  obtain ⟨p, l', e, R', s, m, args, below, meth, c, ⟨cells, slots⟩, A, Q⟩ := Γ
  intro H locs ls hP hD hS hl
  exact lv_lconst C.1 C.2.1 hd hv (K H locs ls hP hD hS hl)
theorem g_null {Γ : CX} {l : Launch} {cc : ByteArray} {nL : Nat} {own : String} {R : Room} {E : EV} {σ : ST} {pc : Nat} {lv : List (Nat × Value)} {st : List Value} (C : FX Γ l cc nL own R E)  (hd : decode cc pc = .ok (.aconst_null, 1))  (K : GW Γ nL E σ (pc + 1) lv (.null :: st)) : GW Γ nL E σ pc lv (st) := by
  obtain ⟨p, l', e, R', s, m, args, below, meth, c, ⟨cells, slots⟩, A, Q⟩ := Γ
  intro H locs ls hP hD hS hl
  exact lv_null C.1 C.2.1 hd (K H locs ls hP hD hS hl)
theorem g_dup {Γ : CX} {l : Launch} {cc : ByteArray} {nL : Nat} {own : String} {R : Room} {E : EV} {σ : ST} {pc : Nat} {lv : List (Nat × Value)} {st : List Value} (C : FX Γ l cc nL own R E) {v : Value} (hd : decode cc pc = .ok (.dup, 1)) (hv : v.category = 1) (K : GW Γ nL E σ (pc + 1) lv (v :: v :: st)) : GW Γ nL E σ pc lv (v :: st) := by
  obtain ⟨p, l', e, R', s, m, args, below, meth, c, ⟨cells, slots⟩, A, Q⟩ := Γ
  intro H locs ls hP hD hS hl
  exact lv_dup C.1 C.2.1 hd hv (K H locs ls hP hD hS hl)
theorem g_pop {Γ : CX} {l : Launch} {cc : ByteArray} {nL : Nat} {own : String} {R : Room} {E : EV} {σ : ST} {pc : Nat} {lv : List (Nat × Value)} {st : List Value} (C : FX Γ l cc nL own R E) {v : Value} (hd : decode cc pc = .ok (.pop, 1)) (hv : v.category = 1) (K : GW Γ nL E σ (pc + 1) lv (st)) : GW Γ nL E σ pc lv (v :: st) := by
  obtain ⟨p, l', e, R', s, m, args, below, meth, c, ⟨cells, slots⟩, A, Q⟩ := Γ
  intro H locs ls hP hD hS hl
  exact lv_pop C.1 C.2.1 hd hv (K H locs ls hP hD hS hl)
theorem g_dup2 {Γ : CX} {l : Launch} {cc : ByteArray} {nL : Nat} {own : String} {R : Room} {E : EV} {σ : ST} {pc : Nat} {lv : List (Nat × Value)} {st : List Value} (C : FX Γ l cc nL own R E) {v1 v2 : Value} (hd : decode cc pc = .ok (.dup2, 1)) (hv1 : v1.category = 1) (hv2 : v2.category = 1) (K : GW Γ nL E σ (pc + 1) lv (v1 :: v2 :: v1 :: v2 :: st)) : GW Γ nL E σ pc lv (v1 :: v2 :: st) := by
  obtain ⟨p, l', e, R', s, m, args, below, meth, c, ⟨cells, slots⟩, A, Q⟩ := Γ
  intro H locs ls hP hD hS hl
  exact lv_dup2_11 C.1 C.2.1 hd hv1 hv2 (K H locs ls hP hD hS hl)
theorem g_dup_x1 {Γ : CX} {l : Launch} {cc : ByteArray} {nL : Nat} {own : String} {R : Room} {E : EV} {σ : ST} {pc : Nat} {lv : List (Nat × Value)} {st : List Value} (C : FX Γ l cc nL own R E) {v1 v2 : Value} (hd : decode cc pc = .ok (.dup_x1, 1)) (hv1 : v1.category = 1) (hv2 : v2.category = 1) (K : GW Γ nL E σ (pc + 1) lv (v1 :: v2 :: v1 :: st)) : GW Γ nL E σ pc lv (v1 :: v2 :: st) := by
  obtain ⟨p, l', e, R', s, m, args, below, meth, c, ⟨cells, slots⟩, A, Q⟩ := Γ
  intro H locs ls hP hD hS hl
  exact lv_dup_x1 C.1 C.2.1 hd hv1 hv2 (K H locs ls hP hD hS hl)
theorem g_lcmp {Γ : CX} {l : Launch} {cc : ByteArray} {nL : Nat} {own : String} {R : Room} {E : EV} {σ : ST} {pc : Nat} {lv : List (Nat × Value)} {st : List Value} (C : FX Γ l cc nL own R E) {x y : Int64} (hd : decode cc pc = .ok (.lcmp, 1))  (K : GW Γ nL E σ (pc + 1) lv (.int (lg_cmp x y) :: st)) : GW Γ nL E σ pc lv (.long y :: .long x :: st) := by
  obtain ⟨p, l', e, R', s, m, args, below, meth, c, ⟨cells, slots⟩, A, Q⟩ := Γ
  intro H locs ls hP hD hS hl
  exact W.lcmp C.1 C.2.1 hd (K H locs ls hP hD hS hl)
theorem g_iload_n {Γ : CX} {l : Launch} {cc : ByteArray} {nL : Nat} {own : String} {R : Room} {E : EV} {σ : ST} {pc : Nat} {lv : List (Nat × Value)} {st : List Value} (C : FX Γ l cc nL own R E) {k : Fin 4} {x : Int32} (j : Nat) (hd : decode cc pc = .ok (.iload_n k, 1)) (hl0 : lv[j]? = some ((k : Nat), .int x)) (K : GW Γ nL E σ (pc + 1) lv (.int x :: st)) : GW Γ nL E σ pc lv (st) := by
  obtain ⟨p, l', e, R', s, m, args, below, meth, c, ⟨cells, slots⟩, A, Q⟩ := Γ
  intro H locs ls hP hD hS hl
  exact lv_iload_n C.1 C.2.1 hd rfl (lv_at hl j hl0) (K H locs ls hP hD hS hl)
theorem g_iload {Γ : CX} {l : Launch} {cc : ByteArray} {nL : Nat} {own : String} {R : Room} {E : EV} {σ : ST} {pc : Nat} {lv : List (Nat × Value)} {st : List Value} (C : FX Γ l cc nL own R E) {k : Nat} {x : Int32} (j : Nat) (hd : decode cc pc = .ok (.iload k, 2)) (hl0 : lv[j]? = some (k, .int x)) (K : GW Γ nL E σ (pc + 2) lv (.int x :: st)) : GW Γ nL E σ pc lv (st) := by
  obtain ⟨p, l', e, R', s, m, args, below, meth, c, ⟨cells, slots⟩, A, Q⟩ := Γ
  intro H locs ls hP hD hS hl
  exact lv_iload C.1 C.2.1 hd (lv_at hl j hl0) (K H locs ls hP hD hS hl)
theorem g_lload_n {Γ : CX} {l : Launch} {cc : ByteArray} {nL : Nat} {own : String} {R : Room} {E : EV} {σ : ST} {pc : Nat} {lv : List (Nat × Value)} {st : List Value} (C : FX Γ l cc nL own R E) {k : Fin 4} {x : Int64} (j : Nat) (hd : decode cc pc = .ok (.lload_n k, 1)) (hl0 : lv[j]? = some ((k : Nat), .long x)) (K : GW Γ nL E σ (pc + 1) lv (.long x :: st)) : GW Γ nL E σ pc lv (st) := by
  obtain ⟨p, l', e, R', s, m, args, below, meth, c, ⟨cells, slots⟩, A, Q⟩ := Γ
  intro H locs ls hP hD hS hl
  exact lv_lload_n C.1 C.2.1 hd rfl (lv_at hl j hl0) (K H locs ls hP hD hS hl)
theorem g_lload {Γ : CX} {l : Launch} {cc : ByteArray} {nL : Nat} {own : String} {R : Room} {E : EV} {σ : ST} {pc : Nat} {lv : List (Nat × Value)} {st : List Value} (C : FX Γ l cc nL own R E) {k : Nat} {x : Int64} (j : Nat) (hd : decode cc pc = .ok (.lload k, 2)) (hl0 : lv[j]? = some (k, .long x)) (K : GW Γ nL E σ (pc + 2) lv (.long x :: st)) : GW Γ nL E σ pc lv (st) := by
  obtain ⟨p, l', e, R', s, m, args, below, meth, c, ⟨cells, slots⟩, A, Q⟩ := Γ
  intro H locs ls hP hD hS hl
  exact lv_lload C.1 C.2.1 hd (lv_at hl j hl0) (K H locs ls hP hD hS hl)
theorem g_aload_n {Γ : CX} {l : Launch} {cc : ByteArray} {nL : Nat} {own : String} {R : Room} {E : EV} {σ : ST} {pc : Nat} {lv : List (Nat × Value)} {st : List Value} (C : FX Γ l cc nL own R E) {k : Fin 4} {x : Nat} (j : Nat) (hd : decode cc pc = .ok (.aload_n k, 1)) (hl0 : lv[j]? = some ((k : Nat), .ref x)) (K : GW Γ nL E σ (pc + 1) lv (.ref x :: st)) : GW Γ nL E σ pc lv (st) := by
  obtain ⟨p, l', e, R', s, m, args, below, meth, c, ⟨cells, slots⟩, A, Q⟩ := Γ
  intro H locs ls hP hD hS hl
  exact lv_aload_n C.1 C.2.1 hd rfl (lv_at hl j hl0) (K H locs ls hP hD hS hl)
theorem g_aload {Γ : CX} {l : Launch} {cc : ByteArray} {nL : Nat} {own : String} {R : Room} {E : EV} {σ : ST} {pc : Nat} {lv : List (Nat × Value)} {st : List Value} (C : FX Γ l cc nL own R E) {k : Nat} {x : Nat} (j : Nat) (hd : decode cc pc = .ok (.aload k, 2)) (hl0 : lv[j]? = some (k, .ref x)) (K : GW Γ nL E σ (pc + 2) lv (.ref x :: st)) : GW Γ nL E σ pc lv (st) := by
  obtain ⟨p, l', e, R', s, m, args, below, meth, c, ⟨cells, slots⟩, A, Q⟩ := Γ
  intro H locs ls hP hD hS hl
  exact lv_aload C.1 C.2.1 hd (lv_at hl j hl0) (K H locs ls hP hD hS hl)
theorem g_istore_n {Γ : CX} {l : Launch} {cc : ByteArray} {nL : Nat} {own : String} {R : Room} {E : EV} {σ : ST} {pc : Nat} {lv : List (Nat × Value)} {st : List Value} (C : FX Γ l cc nL own R E) {k : Fin 4} {x : Int32} (hd : decode cc pc = .ok (.istore_n k, 1)) (hn : (k : Nat) < nL) (lv' : List (Nat × Value)) (hl0 : ((k : Nat), Value.int x) :: lv.filter (fun q => !(q.1 == (k : Nat)) && !(q.1 + 1 == (k : Nat) && q.2.category == 2)) = lv') (K : GW Γ nL E σ (pc + 1) lv' st) : GW Γ nL E σ pc lv (Value.int x :: st) := by
  obtain ⟨p, l', e, R', s, m, args, below, meth, c, ⟨cells, slots⟩, A, Q⟩ := Γ
  intro H locs ls hP hD hS hl
  exact lv_istore_n C.1 C.2.1 hd rfl hl hn hl0 (fun ls2 h2 => K H locs ls2 hP hD hS h2)
theorem g_istore {Γ : CX} {l : Launch} {cc : ByteArray} {nL : Nat} {own : String} {R : Room} {E : EV} {σ : ST} {pc : Nat} {lv : List (Nat × Value)} {st : List Value} (C : FX Γ l cc nL own R E) {k : Nat} {x : Int32} (hd : decode cc pc = .ok (.istore k, 2)) (hn : k < nL) (lv' : List (Nat × Value)) (hl0 : (k, Value.int x) :: lv.filter (fun q => !(q.1 == k) && !(q.1 + 1 == k && q.2.category == 2)) = lv') (K : GW Γ nL E σ (pc + 2) lv' st) : GW Γ nL E σ pc lv (Value.int x :: st) := by
  obtain ⟨p, l', e, R', s, m, args, below, meth, c, ⟨cells, slots⟩, A, Q⟩ := Γ
  intro H locs ls hP hD hS hl
  exact lv_istore C.1 C.2.1 hd hl hn hl0 (fun ls2 h2 => K H locs ls2 hP hD hS h2)
theorem g_astore_n {Γ : CX} {l : Launch} {cc : ByteArray} {nL : Nat} {own : String} {R : Room} {E : EV} {σ : ST} {pc : Nat} {lv : List (Nat × Value)} {st : List Value} (C : FX Γ l cc nL own R E) {k : Fin 4} {x : Nat} (hd : decode cc pc = .ok (.astore_n k, 1)) (hn : (k : Nat) < nL) (lv' : List (Nat × Value)) (hl0 : ((k : Nat), Value.ref x) :: lv.filter (fun q => !(q.1 == (k : Nat)) && !(q.1 + 1 == (k : Nat) && q.2.category == 2)) = lv') (K : GW Γ nL E σ (pc + 1) lv' st) : GW Γ nL E σ pc lv (Value.ref x :: st) := by
  obtain ⟨p, l', e, R', s, m, args, below, meth, c, ⟨cells, slots⟩, A, Q⟩ := Γ
  intro H locs ls hP hD hS hl
  exact lv_astore_n C.1 C.2.1 hd rfl hl hn hl0 (fun ls2 h2 => K H locs ls2 hP hD hS h2)
theorem g_astore {Γ : CX} {l : Launch} {cc : ByteArray} {nL : Nat} {own : String} {R : Room} {E : EV} {σ : ST} {pc : Nat} {lv : List (Nat × Value)} {st : List Value} (C : FX Γ l cc nL own R E) {k : Nat} {x : Nat} (hd : decode cc pc = .ok (.astore k, 2)) (hn : k < nL) (lv' : List (Nat × Value)) (hl0 : (k, Value.ref x) :: lv.filter (fun q => !(q.1 == k) && !(q.1 + 1 == k && q.2.category == 2)) = lv') (K : GW Γ nL E σ (pc + 2) lv' st) : GW Γ nL E σ pc lv (Value.ref x :: st) := by
  obtain ⟨p, l', e, R', s, m, args, below, meth, c, ⟨cells, slots⟩, A, Q⟩ := Γ
  intro H locs ls hP hD hS hl
  exact lv_astore C.1 C.2.1 hd hl hn hl0 (fun ls2 h2 => K H locs ls2 hP hD hS h2)
theorem g_astore_nN {Γ : CX} {l : Launch} {cc : ByteArray} {nL : Nat} {own : String} {R : Room} {E : EV} {σ : ST} {pc : Nat} {lv : List (Nat × Value)} {st : List Value} (C : FX Γ l cc nL own R E) {k : Fin 4} (hd : decode cc pc = .ok (.astore_n k, 1)) (hn : (k : Nat) < nL) (lv' : List (Nat × Value)) (hl0 : ((k : Nat), Value.null) :: lv.filter (fun q => !(q.1 == (k : Nat)) && !(q.1 + 1 == (k : Nat) && q.2.category == 2)) = lv') (K : GW Γ nL E σ (pc + 1) lv' st) : GW Γ nL E σ pc lv (Value.null :: st) := by
  obtain ⟨p, l', e, R', s, m, args, below, meth, c, ⟨cells, slots⟩, A, Q⟩ := Γ
  intro H locs ls hP hD hS hl
  exact lv_astore_nN C.1 C.2.1 hd rfl hl hn hl0 (fun ls2 h2 => K H locs ls2 hP hD hS h2)
theorem g_astoreN {Γ : CX} {l : Launch} {cc : ByteArray} {nL : Nat} {own : String} {R : Room} {E : EV} {σ : ST} {pc : Nat} {lv : List (Nat × Value)} {st : List Value} (C : FX Γ l cc nL own R E) {k : Nat} (hd : decode cc pc = .ok (.astore k, 2)) (hn : k < nL) (lv' : List (Nat × Value)) (hl0 : (k, Value.null) :: lv.filter (fun q => !(q.1 == k) && !(q.1 + 1 == k && q.2.category == 2)) = lv') (K : GW Γ nL E σ (pc + 2) lv' st) : GW Γ nL E σ pc lv (Value.null :: st) := by
  obtain ⟨p, l', e, R', s, m, args, below, meth, c, ⟨cells, slots⟩, A, Q⟩ := Γ
  intro H locs ls hP hD hS hl
  exact lv_astoreN C.1 C.2.1 hd hl hn hl0 (fun ls2 h2 => K H locs ls2 hP hD hS h2)
theorem g_lstore_n {Γ : CX} {l : Launch} {cc : ByteArray} {nL : Nat} {own : String} {R : Room} {E : EV} {σ : ST} {pc : Nat} {lv : List (Nat × Value)} {st : List Value} (C : FX Γ l cc nL own R E) {k : Fin 4} {x : Int64} (hd : decode cc pc = .ok (.lstore_n k, 1)) (hn : (k : Nat) + 1 < nL) (lv' : List (Nat × Value)) (hl0 : ((k : Nat), Value.long x) :: lv.filter (fun q => !(q.1 == (k : Nat)) && (!(q.1 == (k : Nat) + 1) && !(q.1 + 1 == (k : Nat) && q.2.category == 2))) = lv') (K : GW Γ nL E σ (pc + 1) lv' st) : GW Γ nL E σ pc lv (Value.long x :: st) := by
  obtain ⟨p, l', e, R', s, m, args, below, meth, c, ⟨cells, slots⟩, A, Q⟩ := Γ
  intro H locs ls hP hD hS hl
  exact lv_lstore_n C.1 C.2.1 hd rfl hl hn hl0 (fun ls2 h2 => K H locs ls2 hP hD hS h2)
theorem g_lstore {Γ : CX} {l : Launch} {cc : ByteArray} {nL : Nat} {own : String} {R : Room} {E : EV} {σ : ST} {pc : Nat} {lv : List (Nat × Value)} {st : List Value} (C : FX Γ l cc nL own R E) {k : Nat} {x : Int64} (hd : decode cc pc = .ok (.lstore k, 2)) (hn : k + 1 < nL) (lv' : List (Nat × Value)) (hl0 : (k, Value.long x) :: lv.filter (fun q => !(q.1 == k) && (!(q.1 == k + 1) && !(q.1 + 1 == k && q.2.category == 2))) = lv') (K : GW Γ nL E σ (pc + 2) lv' st) : GW Γ nL E σ pc lv (Value.long x :: st) := by
  obtain ⟨p, l', e, R', s, m, args, below, meth, c, ⟨cells, slots⟩, A, Q⟩ := Γ
  intro H locs ls hP hD hS hl
  exact lv_lstore C.1 C.2.1 hd hl hn hl0 (fun ls2 h2 => K H locs ls2 hP hD hS h2)
theorem g_if_eq {Γ : CX} {l : Launch} {cc : ByteArray} {nL : Nat} {own : String} {R : Room} {E : EV} {σ : ST} {pc : Nat} {lv : List (Nat × Value)} {st : List Value} (C : FX Γ l cc nL own R E) {x y : Int32} {off : Int} {tgt : Nat} (hd : decode cc pc = .ok (.ifCond .eq off, 3)) (ht : (pc : Int) + off = (tgt : Int)) (K1 : x = 0 → GW Γ nL E σ tgt lv st) (K2 : ¬ (x = 0) → GW Γ nL E σ (pc + 3) lv st) : GW Γ nL E σ pc lv (.int x :: st) := by
  obtain ⟨p, l', e, R', s, m, args, below, meth, c, ⟨cells, slots⟩, A, Q⟩ := Γ
  intro H locs ls hP hD hS hl
  exact lv_if_eq C.1 C.2.1 hd ht (fun h => K1 h H locs ls hP hD hS hl) (fun h => K2 h H locs ls hP hD hS hl)
theorem g_icmp_eq {Γ : CX} {l : Launch} {cc : ByteArray} {nL : Nat} {own : String} {R : Room} {E : EV} {σ : ST} {pc : Nat} {lv : List (Nat × Value)} {st : List Value} (C : FX Γ l cc nL own R E) {x y : Int32} {off : Int} {tgt : Nat} (hd : decode cc pc = .ok (.if_icmp .eq off, 3)) (ht : (pc : Int) + off = (tgt : Int)) (K1 : x = y → GW Γ nL E σ tgt lv st) (K2 : ¬ (x = y) → GW Γ nL E σ (pc + 3) lv st) : GW Γ nL E σ pc lv (.int y :: .int x :: st) := by
  obtain ⟨p, l', e, R', s, m, args, below, meth, c, ⟨cells, slots⟩, A, Q⟩ := Γ
  intro H locs ls hP hD hS hl
  exact lv_icmp_eq C.1 C.2.1 hd ht (fun h => K1 h H locs ls hP hD hS hl) (fun h => K2 h H locs ls hP hD hS hl)
theorem g_if_ne {Γ : CX} {l : Launch} {cc : ByteArray} {nL : Nat} {own : String} {R : Room} {E : EV} {σ : ST} {pc : Nat} {lv : List (Nat × Value)} {st : List Value} (C : FX Γ l cc nL own R E) {x y : Int32} {off : Int} {tgt : Nat} (hd : decode cc pc = .ok (.ifCond .ne off, 3)) (ht : (pc : Int) + off = (tgt : Int)) (K1 : ¬ x = 0 → GW Γ nL E σ tgt lv st) (K2 : x = 0 → GW Γ nL E σ (pc + 3) lv st) : GW Γ nL E σ pc lv (.int x :: st) := by
  obtain ⟨p, l', e, R', s, m, args, below, meth, c, ⟨cells, slots⟩, A, Q⟩ := Γ
  intro H locs ls hP hD hS hl
  exact lv_if_ne C.1 C.2.1 hd ht (fun h => K1 h H locs ls hP hD hS hl) (fun h => K2 h H locs ls hP hD hS hl)
theorem g_icmp_ne {Γ : CX} {l : Launch} {cc : ByteArray} {nL : Nat} {own : String} {R : Room} {E : EV} {σ : ST} {pc : Nat} {lv : List (Nat × Value)} {st : List Value} (C : FX Γ l cc nL own R E) {x y : Int32} {off : Int} {tgt : Nat} (hd : decode cc pc = .ok (.if_icmp .ne off, 3)) (ht : (pc : Int) + off = (tgt : Int)) (K1 : ¬ x = y → GW Γ nL E σ tgt lv st) (K2 : x = y → GW Γ nL E σ (pc + 3) lv st) : GW Γ nL E σ pc lv (.int y :: .int x :: st) := by
  obtain ⟨p, l', e, R', s, m, args, below, meth, c, ⟨cells, slots⟩, A, Q⟩ := Γ
  intro H locs ls hP hD hS hl
  exact lv_icmp_ne C.1 C.2.1 hd ht (fun h => K1 h H locs ls hP hD hS hl) (fun h => K2 h H locs ls hP hD hS hl)
theorem g_if_lt {Γ : CX} {l : Launch} {cc : ByteArray} {nL : Nat} {own : String} {R : Room} {E : EV} {σ : ST} {pc : Nat} {lv : List (Nat × Value)} {st : List Value} (C : FX Γ l cc nL own R E) {x y : Int32} {off : Int} {tgt : Nat} (hd : decode cc pc = .ok (.ifCond .lt off, 3)) (ht : (pc : Int) + off = (tgt : Int)) (K1 : x < 0 → GW Γ nL E σ tgt lv st) (K2 : ¬ (x < 0) → GW Γ nL E σ (pc + 3) lv st) : GW Γ nL E σ pc lv (.int x :: st) := by
  obtain ⟨p, l', e, R', s, m, args, below, meth, c, ⟨cells, slots⟩, A, Q⟩ := Γ
  intro H locs ls hP hD hS hl
  exact lv_if_lt C.1 C.2.1 hd ht (fun h => K1 h H locs ls hP hD hS hl) (fun h => K2 h H locs ls hP hD hS hl)
theorem g_icmp_lt {Γ : CX} {l : Launch} {cc : ByteArray} {nL : Nat} {own : String} {R : Room} {E : EV} {σ : ST} {pc : Nat} {lv : List (Nat × Value)} {st : List Value} (C : FX Γ l cc nL own R E) {x y : Int32} {off : Int} {tgt : Nat} (hd : decode cc pc = .ok (.if_icmp .lt off, 3)) (ht : (pc : Int) + off = (tgt : Int)) (K1 : x < y → GW Γ nL E σ tgt lv st) (K2 : ¬ (x < y) → GW Γ nL E σ (pc + 3) lv st) : GW Γ nL E σ pc lv (.int y :: .int x :: st) := by
  obtain ⟨p, l', e, R', s, m, args, below, meth, c, ⟨cells, slots⟩, A, Q⟩ := Γ
  intro H locs ls hP hD hS hl
  exact lv_icmp_lt C.1 C.2.1 hd ht (fun h => K1 h H locs ls hP hD hS hl) (fun h => K2 h H locs ls hP hD hS hl)
theorem g_if_ge {Γ : CX} {l : Launch} {cc : ByteArray} {nL : Nat} {own : String} {R : Room} {E : EV} {σ : ST} {pc : Nat} {lv : List (Nat × Value)} {st : List Value} (C : FX Γ l cc nL own R E) {x y : Int32} {off : Int} {tgt : Nat} (hd : decode cc pc = .ok (.ifCond .ge off, 3)) (ht : (pc : Int) + off = (tgt : Int)) (K1 : 0 ≤ x → GW Γ nL E σ tgt lv st) (K2 : ¬ (0 ≤ x) → GW Γ nL E σ (pc + 3) lv st) : GW Γ nL E σ pc lv (.int x :: st) := by
  obtain ⟨p, l', e, R', s, m, args, below, meth, c, ⟨cells, slots⟩, A, Q⟩ := Γ
  intro H locs ls hP hD hS hl
  exact lv_if_ge C.1 C.2.1 hd ht (fun h => K1 h H locs ls hP hD hS hl) (fun h => K2 h H locs ls hP hD hS hl)
theorem g_icmp_ge {Γ : CX} {l : Launch} {cc : ByteArray} {nL : Nat} {own : String} {R : Room} {E : EV} {σ : ST} {pc : Nat} {lv : List (Nat × Value)} {st : List Value} (C : FX Γ l cc nL own R E) {x y : Int32} {off : Int} {tgt : Nat} (hd : decode cc pc = .ok (.if_icmp .ge off, 3)) (ht : (pc : Int) + off = (tgt : Int)) (K1 : y ≤ x → GW Γ nL E σ tgt lv st) (K2 : ¬ (y ≤ x) → GW Γ nL E σ (pc + 3) lv st) : GW Γ nL E σ pc lv (.int y :: .int x :: st) := by
  obtain ⟨p, l', e, R', s, m, args, below, meth, c, ⟨cells, slots⟩, A, Q⟩ := Γ
  intro H locs ls hP hD hS hl
  exact lv_icmp_ge C.1 C.2.1 hd ht (fun h => K1 h H locs ls hP hD hS hl) (fun h => K2 h H locs ls hP hD hS hl)
theorem g_if_gt {Γ : CX} {l : Launch} {cc : ByteArray} {nL : Nat} {own : String} {R : Room} {E : EV} {σ : ST} {pc : Nat} {lv : List (Nat × Value)} {st : List Value} (C : FX Γ l cc nL own R E) {x y : Int32} {off : Int} {tgt : Nat} (hd : decode cc pc = .ok (.ifCond .gt off, 3)) (ht : (pc : Int) + off = (tgt : Int)) (K1 : 0 < x → GW Γ nL E σ tgt lv st) (K2 : ¬ (0 < x) → GW Γ nL E σ (pc + 3) lv st) : GW Γ nL E σ pc lv (.int x :: st) := by
  obtain ⟨p, l', e, R', s, m, args, below, meth, c, ⟨cells, slots⟩, A, Q⟩ := Γ
  intro H locs ls hP hD hS hl
  exact lv_if_gt C.1 C.2.1 hd ht (fun h => K1 h H locs ls hP hD hS hl) (fun h => K2 h H locs ls hP hD hS hl)
theorem g_icmp_gt {Γ : CX} {l : Launch} {cc : ByteArray} {nL : Nat} {own : String} {R : Room} {E : EV} {σ : ST} {pc : Nat} {lv : List (Nat × Value)} {st : List Value} (C : FX Γ l cc nL own R E) {x y : Int32} {off : Int} {tgt : Nat} (hd : decode cc pc = .ok (.if_icmp .gt off, 3)) (ht : (pc : Int) + off = (tgt : Int)) (K1 : y < x → GW Γ nL E σ tgt lv st) (K2 : ¬ (y < x) → GW Γ nL E σ (pc + 3) lv st) : GW Γ nL E σ pc lv (.int y :: .int x :: st) := by
  obtain ⟨p, l', e, R', s, m, args, below, meth, c, ⟨cells, slots⟩, A, Q⟩ := Γ
  intro H locs ls hP hD hS hl
  exact lv_icmp_gt C.1 C.2.1 hd ht (fun h => K1 h H locs ls hP hD hS hl) (fun h => K2 h H locs ls hP hD hS hl)
theorem g_if_le {Γ : CX} {l : Launch} {cc : ByteArray} {nL : Nat} {own : String} {R : Room} {E : EV} {σ : ST} {pc : Nat} {lv : List (Nat × Value)} {st : List Value} (C : FX Γ l cc nL own R E) {x y : Int32} {off : Int} {tgt : Nat} (hd : decode cc pc = .ok (.ifCond .le off, 3)) (ht : (pc : Int) + off = (tgt : Int)) (K1 : x ≤ 0 → GW Γ nL E σ tgt lv st) (K2 : ¬ (x ≤ 0) → GW Γ nL E σ (pc + 3) lv st) : GW Γ nL E σ pc lv (.int x :: st) := by
  obtain ⟨p, l', e, R', s, m, args, below, meth, c, ⟨cells, slots⟩, A, Q⟩ := Γ
  intro H locs ls hP hD hS hl
  exact lv_if_le C.1 C.2.1 hd ht (fun h => K1 h H locs ls hP hD hS hl) (fun h => K2 h H locs ls hP hD hS hl)
theorem g_icmp_le {Γ : CX} {l : Launch} {cc : ByteArray} {nL : Nat} {own : String} {R : Room} {E : EV} {σ : ST} {pc : Nat} {lv : List (Nat × Value)} {st : List Value} (C : FX Γ l cc nL own R E) {x y : Int32} {off : Int} {tgt : Nat} (hd : decode cc pc = .ok (.if_icmp .le off, 3)) (ht : (pc : Int) + off = (tgt : Int)) (K1 : x ≤ y → GW Γ nL E σ tgt lv st) (K2 : ¬ (x ≤ y) → GW Γ nL E σ (pc + 3) lv st) : GW Γ nL E σ pc lv (.int y :: .int x :: st) := by
  obtain ⟨p, l', e, R', s, m, args, below, meth, c, ⟨cells, slots⟩, A, Q⟩ := Γ
  intro H locs ls hP hD hS hl
  exact lv_icmp_le C.1 C.2.1 hd ht (fun h => K1 h H locs ls hP hD hS hl) (fun h => K2 h H locs ls hP hD hS hl)
