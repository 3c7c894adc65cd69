/-! what makes objects: the streets' constructors, City.make, City.read, city() -/
def sc (Γ : CX) (k n : Nat) : CX := match Γ with
  | (p, l, e, R, s, m, args, below, meth, c, _, A, Q) => (p, l, e, R, s, m, args, below, meth, c, (k, n), A, Q)
def CS (Γ : CX) (k n : Nat) : Prop := match Γ with
  | (_, _, _, _, _, _, _, _, _, _, cs, _, _) => cs = (k, n)
def NMI (Γ : CX) : Prop := match Γ with
  | (_, _, _, _, _, _, _, _, meth, _, _, _, _) => meth.name = "<init>"
def addS (σ : ST) (q ci : Nat) (x y : Int32) : ST := (σ.1, σ.2.1, σ.2.2.1, σ.2.2.2.1 ++ [q], va_up σ.2.2.2.2.1 q ci, va_up σ.2.2.2.2.2.1 q x, va_up σ.2.2.2.2.2.2 q y)
def setO (σ : ST) (q : Nat) (x : Int32) : ST := (σ.1, σ.2.1, σ.2.2.1, σ.2.2.2.1, σ.2.2.2.2.1, va_up σ.2.2.2.2.2.1 q x, σ.2.2.2.2.2.2)
def setQ (σ : ST) (q : Nat) (x : Int32) : ST := (σ.1, σ.2.1, σ.2.2.1, σ.2.2.2.1, σ.2.2.2.2.1, σ.2.2.2.2.2.1, va_up σ.2.2.2.2.2.2 q x)
def setR (σ : ST) (i q : Nat) : ST := (σ.1, σ.2.1, va_up σ.2.2.1 i (some q), σ.2.2.2)
theorem wc_head {E : EV} {σ σ' : ST} (h1 : σ'.1 = σ.1) (h2 : σ'.2.1 = σ.2.1) (h3 : σ'.2.2.1 = σ.2.2.1) (o : Nat) : wc E σ' o = wc E σ o := wc_congr (by rw [h1]) (by rw [h2]) h3
theorem wd_push {E : EV} {σ : ST} {q ci : Nat} {x y : Int32} (h : q ∉ σ.2.2.2.1) : wd E σ ++ [(q, .inr (ci, [.int x, .int y]))] = wd E (addS σ q ci x y) := by
  unfold wd
  rw [List.append_assoc, va_pl_push h]
  refine congrArg (fun z => List.map (fun o => (E.2.1 o, wc E σ o)) (List.range 40) ++ z) (va_pl_congr (fun a => ?_))
  by_cases ha : a = q
  · subst ha; simp [va_up, wp, addS]
  · simp [va_up, wp, addS, ha]
theorem wd_pset {E : EV} {σ σ' : ST} {A : Nat → Prop} {q k : Nat} (hD : va_D A (wd E σ)) (h : q ∈ σ.2.2.2.1) (hk : (wd E σ)[k]? = some (q, wp σ q)) (h1 : σ'.1 = σ.1) (h2 : σ'.2.1 = σ.2.1) (h3 : σ'.2.2.1 = σ.2.2.1) (h4 : σ'.2.2.2.1 = σ.2.2.2.1) (h5 : ∀ a, a ≠ q → wp σ' a = wp σ a) : (wd E σ).set k (q, wp σ' q) = wd E σ' := by
  unfold wd at hD hk ⊢
  rw [va_pl_set hD h hk, h4]
  congr 1
  · apply List.map_congr_left
    intro o _
    rw [wc_head h1 h2 h3 o]
  · apply va_pl_congr
    intro a
    by_cases ha : a = q
    · subst ha; simp [va_up]
    · simp [va_up, ha, h5 a ha]
def CTA (l : Launch) (E : EV) (y : MethodName) (bytes : ByteArray) (maxL : Nat) (ret : Option FieldType) (rm : Room) (as : List Value) (σ : ST) (mc ms : Nat) (post : Option Value → ST → Prop) : Prop :=
  ∀ sz : Nat, Met l y [.code y bytes maxL ret] rm (va_Pc as (PRE E σ sz)) (fun _ st oc t => ∃ r σ', oc = .returned r ∧ post r σ' ∧ va_P E.1 vwCl (wd E σ') t.heap ∧ va_D (va_A (wd E σ) sz) (wd E σ') ∧ va_F (va_A (wd E σ) sz) st t) mc ms (va_A (wd E σ) sz)
theorem CT.ofI {l : Launch} {E : EV} {y : MethodName} {bytes : ByteArray} {maxL : Nat} {ret : Option FieldType} {rm : Room} {as : List Value} {σ : ST} {r : Option Value} {σ' : ST} (own : String) (ho : y.cls = own) (hn : y.name = "<init>") (hy : plainName y.cls = true) (hlen : (lg_sl as).length ≤ maxL) (hc0 : rm.cells = 0) (hs0 : rm.slots = 0)
    (body : ∀ Γ : CX, FX Γ l bytes maxL own rm E → NMI Γ → RT Γ ret E r σ' → GW Γ maxL E σ 0 (lv_args 0 as) []) : CT l E y bytes maxL ret rm as σ r σ' := by
  intro sz
  refine Met.ofW (cc := bytes) (maxL := maxL) (ret := ret) hy rfl ?_
  intro p e s m args below meth c s₁ B hml hv
  obtain ⟨rfl, hsz, hP, hD, hK, hH⟩ := hv
  subst hsz
  have hown : s.vm.findClass own = some m.cls := by rw [← ho]; exact findClass_of_methodNamed B.named
  have h := body (p, l, e, rm, s, m, as.toArray, below, meth, c, (0, 0), va_A (wd E σ) s.heap.size, MQ below (fun _ st oc t => oc = .returned r ∧ va_P E.1 vwCl (wd E σ') t.heap ∧ va_D (va_A (wd E σ) s.heap.size) (wd E σ') ∧ va_F (va_A (wd E σ) s.heap.size) st t) as.toArray s 0 0 (va_A (wd E σ) s.heap.size))
    ⟨B.exec, B.bytes, hml, hown, rfl, rfl, hK, hH, fun q h => Or.inr h, by rw [hc0]; exact Nat.le_refl 0, by rw [hs0]; exact Nat.le_refl 0⟩
    ((name_of_methodNamed B.named B.method).1.trans hn)
    ⟨B.returns, B.notSynchronized, _, _, rfl, fun _ h => h, fun t h1 h2 h3 => ⟨rfl, h1, h2, h3⟩⟩
  rw [lg_entry_eq]
  exact h s.heap [] _ hP (hD.self) va_S.rf (lv_entry as hlen)
theorem CTA.of {l : Launch} {E : EV} {y : MethodName} {bytes : ByteArray} {maxL : Nat} {ret : Option FieldType} {rm : Room} {as : List Value} {σ : ST} {mc ms : Nat} {post : Option Value → ST → Prop} (own : String) (ho : y.cls = own) (hy : plainName y.cls = true) (hlen : (lg_sl as).length ≤ maxL)
    (body : ∀ Γ : CX, FX Γ l bytes maxL own rm E → CS Γ 0 0 → (∀ r σ', post r σ' → RT (sc Γ mc ms) ret E r σ') → GW Γ maxL E σ 0 (lv_args 0 as) []) : CTA l E y bytes maxL ret rm as σ mc ms post := by
  intro sz
  refine Met.ofW (cc := bytes) (maxL := maxL) (ret := ret) hy rfl ?_
  intro p e s m args below meth c s₁ B hml hv
  obtain ⟨rfl, hsz, hP, hD, hK, hH⟩ := hv
  subst hsz
  have hown : s.vm.findClass own = some m.cls := by rw [← ho]; exact findClass_of_methodNamed B.named
  have h := body (p, l, e, rm, s, m, as.toArray, below, meth, c, (0, 0), va_A (wd E σ) s.heap.size, MQ below (fun _ st oc t => ∃ r σ', oc = .returned r ∧ post r σ' ∧ va_P E.1 vwCl (wd E σ') t.heap ∧ va_D (va_A (wd E σ) s.heap.size) (wd E σ') ∧ va_F (va_A (wd E σ) s.heap.size) st t) as.toArray s mc ms (va_A (wd E σ) s.heap.size))
    ⟨B.exec, B.bytes, hml, hown, rfl, rfl, hK, hH, fun q h => Or.inr h, Nat.zero_le _, Nat.zero_le _⟩ rfl
    (fun r σ' hp => ⟨B.returns, B.notSynchronized, _, _, rfl, fun _ h => h, fun t h1 h2 h3 => ⟨r, σ', rfl, hp, h1, h2, h3⟩⟩)
  rw [lg_entry_eq]
  exact h s.heap [] _ hP (hD.self) va_S.rf (lv_entry as hlen)
/-- a class whose objects are made: its fields' kinds, the words of 'new' -/
def NEW (own : String) (idx : Nat) (Cn : String) : Prop := (Cond.classLink own idx Cn ∈ lw_tbl) ∧ (Cond.instantiable Cn 2 ∈ lw_tbl) ∧ (Cond.initialized Cn ∈ lw_tbl)
section RULES4
variable {Γ : CX} {l : Launch} {cc : ByteArray} {nL : Nat} {own : String} {R : Room} {E : EV} {σ : ST} {pc : Nat} {lv : List (Nat × Value)} {st : List Value}
theorem FX.sc {k n : Nat} (C : FX Γ l cc nL own R E) (h1 : k ≤ R.cells) (h2 : n ≤ R.slots) : FX (sc Γ k n) l cc nL own R E := by
  obtain ⟨p, l', e, R', s, m, args, below, meth, c, cs, A, Q⟩ := Γ
  exact ⟨C.1, C.2.1, C.2.2.1, C.2.2.2.1, C.2.2.2.2.1, C.2.2.2.2.2.1, C.2.2.2.2.2.2.1, C.2.2.2.2.2.2.2.1, C.2.2.2.2.2.2.2.2.1, h1, h2⟩
theorem sc_CS {k n : Nat} : CS (sc Γ k n) k n := by
  obtain ⟨p, l', e, R', s, m, args, below, meth, c, cs, A, Q⟩ := Γ
  rfl
theorem sc_sc {k n k' n' : Nat} : sc (sc Γ k n) k' n' = sc Γ k' n' := by
  obtain ⟨p, l', e, R', s, m, args, below, meth, c, cs, A, Q⟩ := Γ
  rfl
theorem sc_self {k n : Nat} (h : CS Γ k n) : sc Γ k n = Γ := by
  obtain ⟨p, l', e, R', s, m, args, below, meth, c, cs, A, Q⟩ := Γ
  have h : cs = (k, n) := h
  subst h
  rfl
theorem g_widen {k n k' n' : Nat} (h : CS Γ k n) (h1 : k ≤ k') (h2 : n ≤ n') (K : GW (sc Γ k' n') nL E σ pc lv st) : GW Γ nL E σ pc lv st := by
  obtain ⟨p, l', e, R', s, m, args, below, meth, c, cs, A, Q⟩ := Γ
  have h : cs = (k, n) := h
  subst h
  intro H locs ls hP hD hS hl
  exact W.widen h1 h2 (K H locs ls hP hD hS hl)
theorem g_objI (C : FX Γ l cc nL own R E) {a idx : Nat} (hk : (Cond.methodLink own idx objectInit ∈ lw_tbl) ∧ (Cond.instanceMethod objectInit ∈ lw_tbl) ∧ (Cond.code objectInit ⟨#[0xb1]⟩ 1 none ∈ lw_tbl)) (hd : decode cc pc = .ok (.invokespecial idx, 3)) (hf : 1 ≤ R.frames) (hlo : (st.map fun v => v.category).sum + 12 ≤ R.locals) (K : GW Γ nL E σ (pc + 3) lv st) : GW Γ nL E σ pc lv (.ref a :: st) := by
  obtain ⟨p, l', e, R', s, m, args, below, meth, c, cs, A, Q⟩ := Γ
  obtain ⟨hx, hb, hml, hown, rfl, rfl, hKE, hHE, hA, hc1, hc2⟩ := C
  intro H locs ls hP hD hS hl
  exact W.objInit hx hb hown (hKE.1 _ hk.1 rfl args) (hKE.1 _ hk.2.1 rfl args) (hKE.1 _ hk.2.2 rfl args) rfl (by rw [hml]; exact hl.1) rfl hd hf (by show 2 * 0 + _ + 12 ≤ _; omega) (K H locs ls hP hD hS hl)
theorem g_putS (C : FX Γ l cc nL RX7 R E) (hI : NMI Γ) {q ci idx k : Nat} {Cn : String} {T : u_T} {x : Int32} (σ' : ST) (ty0 : Nat → FieldType) (hty : ∀ k, k < 2 → parseFieldDescriptor (T k).2.2.1 = some (ty0 k)) (hnm : ∀ a, a < 2 → ∀ b, b < 2 → a ≠ b → (T a).2.1 ≠ (T b).2.1) (hd : decode cc pc = .ok (.putfield idx, 3)) (hc : CLS ci Cn T 2) (hf : FLD RX7 idx T k) (hk : k < 2) (hfin : (T k).2.2.2 = true) (hdc : (T k).1 = RX7) (ht : ty0 k = .int) (hq : q ∈ σ.2.2.2.1) (hK : σ.2.2.2.2.1 q = ci) (h1 : σ'.1 = σ.1) (h2 : σ'.2.1 = σ.2.1) (h3 : σ'.2.2.1 = σ.2.2.1) (h4 : σ'.2.2.2.1 = σ.2.2.2.1) (h5 : ∀ a, a ≠ q → wp σ' a = wp σ a) (h6 : wp σ' q = .inr (ci, [Value.int (σ.2.2.2.2.2.1 q), .int (σ.2.2.2.2.2.2 q)].set k (.int x))) (K : GW Γ nL E σ' (pc + 3) lv st) : GW Γ nL E σ pc lv (.int x :: .ref q :: st) := by
  obtain ⟨p, l', e, R', s, m, args, below, meth, c, cs, A, Q⟩ := Γ
  obtain ⟨hx, hb, hml, hown, rfl, rfl, hKE, hHE, hA, hc1, hc2⟩ := C
  intro H locs ls hP hD hS hl
  obtain ⟨j, hj⟩ := wd_pl E σ hq
  have hset := wd_pset (σ' := σ') hD hq hj h1 h2 h3 h4 h5
  rw [h6] at hset
  refine va_putF (D := E.1) (ty := .int) (Ts := u_ws Cn T 2) hx hb (fun w h => hKE.1 w (hc.2 w h).1 (hc.2 w h).2 args) (fun _ h => h) ty0 hty hnm hown hKE.2.1 hP hD hS j (fs := [Value.int (σ.2.2.2.2.2.1 q), .int (σ.2.2.2.2.2.2 q)]) (ci := ci) (by rw [hj, wp, hK]) hc.1 k hk (fld_ok hKE.1 hf) (fun _ h => h) hfin hI hdc (by rw [← ht]; exact hty k hk) rfl rfl hk hd (fun H1 locs1 hP1 hD1 hS1 => ?_)
  rw [hset] at hP1 hD1
  exact K H1 locs1 ls hP1 hD1 hS1 hl
theorem g_callI (C : FX Γ l cc nL own R E) {a idx maxL n : Nat} {y : MethodName} {bytes : ByteArray} {rm : Room} {as : List Value} {σ' : ST} (hM : CT l E y bytes maxL none rm (.ref a :: as) σ none σ') (hk : LKB own idx y bytes maxL none n) (hni : y.name = "<init>") (hi : Cond.instanceMethod y ∈ lw_tbl) (hR : FIT R rm maxL) (hn : as.length = n) (hroom : (st.map fun v => v.category).sum ≤ 8) (hd : decode cc pc = .ok (.invokespecial idx, 3)) (st0 : List Value) (hst : st0 = as.reverse ++ .ref a :: st) (K : GW Γ nL E σ' (pc + 3) lv st) : GW Γ nL E σ pc lv st0 := by
  obtain ⟨p, l', e, R', s, m, args, below, meth, c, cs, A, Q⟩ := Γ
  obtain ⟨hx, hb, hml, hown, rfl, rfl, hKE, hHE, hA, hc1, hc2⟩ := C
  intro H locs ls hP hD hS hl
  have hfr := g_free hD hS hA
  exact g_after (va_runI (Ts := []) ⟨hx, hb, hml, hown, fun _ h => absurd h List.not_mem_nil⟩ (hM H.size) ⟨g_callB hKE.1 hk hR, hni, hKE.1 _ hi rfl args⟩ (g_pre hKE hHE hA hP hD hS (.ref a :: as)) rfl hn hl.1 hst (lv_room hroom) hd ⟨hc1, hc2⟩) hS hfr hfr (fun H1 locs1 a1 a2 a3 => K H1 locs1 ls a1 a2 a3 hl)
theorem g_new (C : FX Γ l cc nL own R E) {k n ci idx : Nat} (hcs : CS Γ k n) {Cn : String} {T : u_T} (ty0 : Nat → FieldType) (hty : ∀ k, k < 2 → parseFieldDescriptor (T k).2.2.1 = some (ty0 k)) (ht0 : ty0 0 = .int) (ht1 : ty0 1 = .int) (hc : CLS ci Cn T 2) (hw : NEW own idx Cn) (hk : k + 1 ≤ R.cells) (hn : n + 2 ≤ R.slots) (hd : decode cc pc = .ok (.new idx, 3)) (K : ∀ q : Nat, q ∉ σ.2.2.2.1 → GW (sc Γ (k + 1) (n + 2)) nL E (addS σ q ci 0 0) (pc + 3) lv (.ref q :: st)) : GW Γ nL E σ pc lv st := by
  obtain ⟨p, l', e, R', s, m, args, below, meth, c, cs, A, Q⟩ := Γ
  have hcs : cs = (k, n) := hcs
  subst hcs
  obtain ⟨hx, hb, hml, hown, rfl, rfl, hKE, hHE, hA, hc1, hc2⟩ := C
  intro H locs ls hP hD hS hl
  refine va_new (ci := ci) (fs := [.int 0, .int 0]) (C := Cn) (T := T) (N := 2) (Ts := u_ws Cn T 2) hx hb (fun w h => hKE.1 w (hc.2 w h).1 (hc.2 w h).2 args) (fun _ h => h) ty0 hty hown (hKE.1 _ hw.1 rfl args) (hKE.1 _ hw.2.1 rfl args) (hKE.1 _ hw.2.2 rfl args) hKE.2.1 hP hD hS hA hc.1 (fun j hj => by rcases (show j = 0 ∨ j = 1 by omega) with rfl | rfl <;> simp only [ht0, ht1] <;> rfl) hk hn hd (fun q H1 hP1 hD1 hS1 => ?_)
  have hq : q ∉ σ.2.2.2.1 := by
    intro hm
    obtain ⟨j, hj⟩ := wd_pl E σ hm
    have hlt := (List.getElem?_eq_some_iff.mp hj).1
    have e1 : (wd E σ ++ [(q, Sum.inr (ci, [Value.int 0, Value.int 0]))])[j]? = some (q, wp σ q) := by rw [List.getElem?_append_left hlt]; exact hj
    have e2 : (wd E σ ++ [(q, (Sum.inr (ci, [Value.int 0, Value.int 0]) : va_E))])[(wd E σ).length]? = some (q, Sum.inr (ci, [Value.int 0, Value.int 0])) := by rw [List.getElem?_append_right (Nat.le_refl _)]; simp
    have := hD1.1 _ _ _ _ e1 e2 rfl
    omega
  rw [wd_push hq] at hP1 hD1
  exact K q hq H1 locs ls hP1 hD1 hS1 hl
/-- a street goes into the row of streets -/
theorem g_aast (C : FX Γ l cc nL own R E) {i : Int32} {q : Nat} (hd : decode cc pc = .ok (.aastore, 1)) (hi : inB i 8) (hp : pv σ q) (K : GW Γ nL E (setR σ i.toNatClampNeg q) (pc + 1) lv st) : GW Γ nL E σ pc lv (.ref q :: .int i :: .ref (E.2.1 5) :: st) := by
  obtain ⟨p, l', e, R', s, m, args, below, meth, c, cs, A, Q⟩ := Γ
  obtain ⟨hx, hb, hml, hown, rfl, rfl, hKE, hHE, hA, hc1, hc2⟩ := C
  intro H locs ls hP hD hS hl
  have hset : (wd E σ).set 5 (E.2.1 5, .inl (E.2.2.1.2.2, 8, .inr (.inr (.inr (.inr (va_up σ.2.2.1 i.toNatClampNeg (some q))))))) = wd E (setR σ i.toNatClampNeg q) :=
    wd_set (by decide) rfl (fun j hj => ⟨rfl, rfl⟩) (Or.inl rfl) rfl
  have hany : va_Any "KeyStreets$Street" s H q := by
    obtain ⟨j, hj⟩ := wd_pl E σ hp.1
    have cast : ∀ Cn : String, (Cn, RX7) ∈ [(RX5, RX2), (RX2, RX7), (RX0, RX7), (RX6, RX7), (RX5, RX7)] → ∀ comp c0 : ClassId, s.vm.findClass "KeyStreets$Street" = some comp → s.vm.findClass Cn = some c0 → s.vm.assignable c0 comp = true := by
      intro Cn hm comp c0 e1 e2
      obtain ⟨c, t, f1, f2, f3⟩ := Cond.castable_spec (hKE.2.2.2.2.1 _ hm)
      have a1 : c0 = c := Option.some.inj (e2.symm.trans f1)
      have a2 : comp = t := Option.some.inj (e1.symm.trans f2)
      rw [a1, a2]; exact f3
    rcases hp.2 with h | h | h | h | h
    · exact va_rAny hKE.2.1 hP (by rw [hj, wp, h]) cls_0.1 (cast RX0 (by decide))
    · exact va_rAny hKE.2.1 hP (by rw [hj, wp, h]) cls_2.1 (cast RX2 (by decide))
    · exact va_rAny hKE.2.1 hP (by rw [hj, wp, h]) cls_5.1 (cast RX5 (by decide))
    · exact va_rAny hKE.2.1 hP (by rw [hj, wp, h]) cls_6.1 (cast RX6 (by decide))
    · exact va_rAny hKE.2.1 hP (by rw [hj, wp, h]) cls_7.1 (fun comp c0 e1 e2 => by
        have a1 : c0 = comp := Option.some.inj (e2.symm.trans e1)
        subst a1
        have h9 := (hKE.2.1.1 7 _ cls_7.1).2
        have a2 : c0 = E.1.1 7 := Option.some.inj (e2.symm.trans h9.1)
        rw [a2]; exact va_assign h9)
  refine va_astqM hx hb hKE.2.1 hP hD hS 5 2 (by rw [wd_at E σ (by decide)]; rfl) rfl hany hi hd (fun H1 locs1 hP1 hD1 hS1 => ?_)
  rw [hset] at hP1 hD1
  exact K H1 locs1 ls hP1 hD1 hS1 hl
/-- behind a call that may make cells -/
theorem g_afterA {p : Program} {e : Env} {s : State} {m : MethodId} {args : Array Value} {below : List Frame} {meth : Method} {c : Code} {H : Heap} {locs : List Loc} {cells slots mc ms : Nat} {Q : State → Prop} {ls : Array Slot} {rest st0 : List Value} {A0 A1 : Nat → Prop} {H0 : Heap} {free : Addr → Prop} {post : Option Value → ST → Prop}
    (hr : va_Run p l e R s m args below meth c H locs cells slots mc ms (F0 m pc ls st0) rest (fun st oc t => ∃ r σ', oc = .returned r ∧ post r σ' ∧ va_P E.1 vwCl (wd E σ') t.heap ∧ va_D A1 (wd E σ') ∧ va_F A1 st t) free) (hS : va_S A0 H0 H locs) (hA : ∀ q, A1 q → A0 q) (hf : ∀ q, free q → A0 q)
    (kk : ∀ (r : Option Value) (σ' : ST) (H1 : Heap) (locs1 : List Loc), post r σ' → va_P E.1 vwCl (wd E σ') H1 → va_D A0 (wd E σ') → va_S A0 H0 H1 locs1 → W p l e R s m args below meth c H1 locs1 (cells + mc) (slots + ms) Q (F0 m (pc + 3) ls (r.toList ++ rest))) : W p l e R s m args below meth c H locs cells slots Q (F0 m pc ls st0) := by
  intro T hT X
  obtain ⟨v, st₀, t, T', L, h0, X', hL, e1, e2, ⟨r, σ', hv, hpo, hP, hD, hz, hk⟩, st⟩ := hr T hT X
  cases hv
  rw [h0] at hz hk
  obtain ⟨t2, a1, b1⟩ := kk v σ' T'.heap (locs ++ L) hpo (by rw [e1]; exact hP) (hD.weaken (fun _ _ _ h => hA _ h))
    ⟨Nat.le_trans hS.1 (by rw [e1]; exact hz), fun q h1 h2 => by rw [e1, hk q (Nat.lt_of_lt_of_le h1 hS.1) (fun z => h2 (hA q z))]; exact hS.2.1 q h1 h2, fun q hq => by
      rcases List.mem_append.mp hq with h | h
      · exact hS.2.2 q h
      · exact hf _ (hL q h)⟩ T' rfl X'
  exact ⟨t2, st t2 a1, b1⟩
def FITA (R rm : Room) (maxL mc ms : Nat) : Prop := rm.cells = mc ∧ rm.slots = ms ∧ rm.frames + 1 ≤ R.frames ∧ 8 + (maxL + 11) + rm.locals ≤ R.locals
theorem g_callBA {s : State} {args : Array Value} {idx maxL n mc ms : Nat} {y : MethodName} {bytes : ByteArray} {ret : Option FieldType} {rm : Room} (hK : KT s) (h : LKB own idx y bytes maxL ret n) (hR : FITA R rm maxL mc ms) : CallB R s args own idx y bytes maxL ret [.code y bytes maxL ret] rm mc ms n :=
  ⟨hR.1, hR.2.1, hR.2.2.1, hR.2.2.2, fun w hw a' U hW => by rw [List.mem_singleton.mp hw]; exact (hK.warm hW) _ h.1 rfl a', List.mem_singleton.mpr rfl, hK _ h.1 rfl args, hK _ h.2.1 rfl args, h.2.2.1, fun sig hs => by have h2 := h.2.2.2.1; rw [hs] at h2; exact (Option.some.inj h2).symm, hK _ h.2.2.2.2 rfl args⟩
theorem g_callSA (C : FX Γ l cc nL own R E) {idx maxL n k k2 mc ms : Nat} (hcs : CS Γ k k2) {y : MethodName} {bytes : ByteArray} {ret : Option FieldType} {rm : Room} {as : List Value} {post : Option Value → ST → Prop} (hM : CTA l E y bytes maxL ret rm as σ mc ms post) (hk : LKS own idx y bytes maxL ret n) (hR : FITA R rm maxL mc ms) (h1 : k + mc ≤ R.cells) (h2 : k2 + ms ≤ R.slots) (hn : as.length = n) (hroom : (st.map fun v => v.category).sum ≤ 8) (hd : decode cc pc = .ok (.invokestatic idx, 3)) (st0 : List Value) (hst : st0 = as.reverse ++ st) (K : ∀ r σ', post r σ' → GW (sc Γ (k + mc) (k2 + ms)) nL E σ' (pc + 3) lv (r.toList ++ st)) : GW Γ nL E σ pc lv st0 := by
  obtain ⟨p, l', e, R', s, m, args, below, meth, c, cs, A, Q⟩ := Γ
  have hcs : cs = (k, k2) := hcs
  subst hcs
  obtain ⟨hx, hb, hml, hown, rfl, rfl, hKE, hHE, hA, hc1, hc2⟩ := C
  intro H locs ls hP hD hS hl
  have hfr := g_free hD hS hA
  exact g_afterA (va_runS (Ts := []) ⟨hx, hb, hml, hown, fun _ h => absurd h List.not_mem_nil⟩ (hM H.size) ⟨g_callBA hKE.1 hk.1 hR, hKE.1 _ hk.2 rfl args⟩ (g_pre hKE hHE hA hP hD hS as) rfl hn hl.1 hst (lv_room hroom) hd ⟨h1, h2⟩) hS hfr hfr (fun r σ' H1 locs1 hp a1 a2 a3 => K r σ' hp H1 locs1 ls a1 a2 a3 hl)
theorem g_callVA (C : FX Γ l cc nL own R E) (o : Nat) {ci idx maxL n N k k2 mc ms : Nat} (hcs : CS Γ k k2) {y : MethodName} {bytes : ByteArray} {ret : Option FieldType} {rm : Room} {Cn : String} {T : u_T} {fs : List Value} {as : List Value} {post : Option Value → ST → Prop} (hM : CTA l E y bytes maxL ret rm (.ref (E.2.1 o) :: as) σ mc ms post) (hc : CLS ci Cn T N) (hk : LKV own Cn idx y bytes maxL ret n) (hR : FITA R rm maxL mc ms) (h1 : k + mc ≤ R.cells) (h2 : k2 + ms ≤ R.slots) (ho : o < 40) (hw : wc E σ o = .inr (ci, fs)) (hn : as.length = n) (hroom : (st.map fun v => v.category).sum ≤ 8) (hd : decode cc pc = .ok (.invokevirtual idx, 3)) (st0 : List Value) (hst : st0 = as.reverse ++ .ref (E.2.1 o) :: st) (K : ∀ r σ', post r σ' → GW (sc Γ (k + mc) (k2 + ms)) nL E σ' (pc + 3) lv (r.toList ++ st)) : GW Γ nL E σ pc lv st0 := by
  obtain ⟨p, l', e, R', s, m, args, below, meth, c, cs, A, Q⟩ := Γ
  have hcs : cs = (k, k2) := hcs
  subst hcs
  obtain ⟨hx, hb, hml, hown, rfl, rfl, hKE, hHE, hA, hc1, hc2⟩ := C
  intro H locs ls hP hD hS hl
  have hfr := g_free hD hS hA
  have hpre := g_pre hKE hHE hA hP hD hS (.ref (E.2.1 o) :: as)
  exact g_afterA (va_runV (Ts := []) (C := Cn) ⟨hx, hb, hml, hown, fun _ h => absurd h List.not_mem_nil⟩ (hM H.size) ⟨g_callBA hKE.1 hk.1 hR, hKE.1 _ hk.2.1 rfl args, hKE.1 _ hk.2.2 rfl args⟩ ⟨hpre.1, va_recv hKE.2.1 hP (q0 := o) hc.1 (by rw [wd_at E σ ho, hw]), hpre.2⟩ rfl hn hl.1 hst (lv_room hroom) hd ⟨h1, h2⟩) hS hfr hfr (fun r σ' H1 locs1 hp a1 a2 a3 => K r σ' hp H1 locs1 ls a1 a2 a3 hl)
end RULES4
