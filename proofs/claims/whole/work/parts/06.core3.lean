/-! streets (in the pool), the text of kinds, arraycopy, instanceof -/
abbrev pv (σ : ST) (a : Nat) : Prop := a ∈ σ.2.2.2.1 ∧ (σ.2.2.2.2.1 a = 0 ∨ σ.2.2.2.2.1 a = 2 ∨ σ.2.2.2.2.1 a = 5 ∨ σ.2.2.2.2.1 a = 6 ∨ σ.2.2.2.2.1 a = 7)
def LKU (own Cn : String) (idx : Nat) (x y : MethodName) (bytes : ByteArray) (maxL : Nat) (ret : Option FieldType) (n : Nat) : Prop :=
  (Cond.code y bytes maxL ret ∈ lw_tbl) ∧ (Cond.initialized y.cls ∈ lw_tbl) ∧ (x.cls ≠ "java/lang/invoke/MethodHandle" ∧ x.cls ≠ "java/lang/invoke/VarHandle") ∧ ((parseMethodDescriptor x.desc).map (fun d => d.parameters.length) = some n) ∧ (Cond.methodLink own idx x ∈ lw_tbl) ∧ (Cond.sameMethod x.cls x.cls x.name x.desc ∈ lw_tbl) ∧ (Cond.selects Cn x y ∈ lw_tbl) ∧ (Cond.instanceMethod y ∈ lw_tbl) ∧ (∃ b0 m0 r0, Cond.code x b0 m0 r0 ∈ lw_tbl) ∧ (Cond.instanceMethod x ∈ lw_tbl)
def LKSU (own : String) (idx : Nat) (y : MethodName) (bytes : ByteArray) (maxL : Nat) (ret : Option FieldType) (n : Nat) : Prop :=
  (Cond.code y bytes maxL ret ∈ lw_tbl) ∧ (Cond.methodLink own idx y ∈ lw_tbl) ∧ (Cond.sameMethod y.cls y.cls y.name y.desc ∈ lw_tbl) ∧ (Cond.superclass own y.cls ∈ lw_tbl) ∧ (Cond.instanceMethod y ∈ lw_tbl) ∧ (Cond.initialized y.cls ∈ lw_tbl) ∧ y.name ≠ "<init>" ∧ ((parseMethodDescriptor y.desc).map (fun d => d.parameters.length) = some n)
section RULES3
variable {Γ : CX} {l : Launch} {cc : ByteArray} {nL : Nat} {own : String} {R : Room} {E : EV} {σ : ST} {pc : Nat} {lv : List (Nat × Value)} {st : List Value}
theorem g_bretR {v rr : Int32} (C : FX Γ l cc nL own R E) (hR : RT Γ (some .byte) E (some (.int rr)) σ) (hf : some v = some rr) (hv : narrow .byte (.int v) = .int v) (hd : decode cc pc = .ok (.ireturn, 1)) : GW Γ nL E σ pc lv [.int v] := by
  cases hf
  obtain ⟨p, l', e, R', s, m, args, below, meth, c, cs, A, Q⟩ := Γ
  obtain ⟨h1, h2, Qc, free, rfl, h3, h4⟩ := hR
  intro H locs ls hP hD hS hl
  exact W.zret C.1 C.2.1 h1 hv (fun t ht hW => h4 t (by rw [ht]; exact hP) hD (hS.F ht)) (fun q hq => h3 _ (hS.2.2 q hq)) hd h2
theorem g_getP (C : FX Γ l cc nL own R E) {a ci idx k N : Nat} {Cn : String} {T : u_T} {v : Value} (hd : decode cc pc = .ok (.getfield idx, 3)) (hc : CLS ci Cn T N) (hf : FLD own idx T k) (hk : k < N) (ha : a ∈ σ.2.2.2.1) (hK : σ.2.2.2.2.1 a = ci) (hv : [Value.int (σ.2.2.2.2.2.1 a), .int (σ.2.2.2.2.2.2 a)][k]? = some v) (K : GW Γ nL E σ (pc + 3) lv (v :: st)) : GW Γ nL E σ pc lv (.ref a :: st) := by
  obtain ⟨p, l', e, R', s, m, args, below, meth, c, cs, A, Q⟩ := Γ
  obtain ⟨hx, hb, hml, hown, hR', hl', hKE, hHE, hA, -⟩ := C
  intro H locs ls hP hD hS hl
  obtain ⟨q, hq⟩ := wd_pl E σ ha
  refine va_get (D := E.1) (Ts := u_ws Cn T N) hx hb (fun w h => hKE.1 w (hc.2 w h).1 (hc.2 w h).2 args) (fun _ h => h) hown hKE.2.1 hP q (ci := ci) (by rw [hq, wp, hK]) hc.1 k hk (fld_ok hKE.1 hf) (fun _ h => h) hv hd (K H locs ls hP hD hS hl)
theorem g_one (C : FX Γ l cc nL own R E) {a idx : Nat} (hf : FLD own idx TX7 0) (hd : decode cc pc = .ok (.getfield idx, 3)) (hp : pv σ a) (K : GW Γ nL E σ (pc + 3) lv (.int (σ.2.2.2.2.2.1 a) :: st)) : GW Γ nL E σ pc lv (.ref a :: st) := by
  rcases hp with ⟨ha, h | h | h | h | h⟩
  · exact g_getP C hd cls_0 (k := 0) hf (by decide) ha h rfl K
  · exact g_getP C hd cls_2 (k := 0) hf (by decide) ha h rfl K
  · exact g_getP C hd cls_5 (k := 0) hf (by decide) ha h rfl K
  · exact g_getP C hd cls_6 (k := 0) hf (by decide) ha h rfl K
  · exact g_getP C hd cls_7 (k := 0) hf (by decide) ha h rfl K
theorem g_other (C : FX Γ l cc nL own R E) {a idx : Nat} (hf : FLD own idx TX7 1) (hd : decode cc pc = .ok (.getfield idx, 3)) (hp : pv σ a) (K : GW Γ nL E σ (pc + 3) lv (.int (σ.2.2.2.2.2.2 a) :: st)) : GW Γ nL E σ pc lv (.ref a :: st) := by
  rcases hp with ⟨ha, h | h | h | h | h⟩
  · exact g_getP C hd cls_0 (k := 1) hf (by decide) ha h rfl K
  · exact g_getP C hd cls_2 (k := 1) hf (by decide) ha h rfl K
  · exact g_getP C hd cls_5 (k := 1) hf (by decide) ha h rfl K
  · exact g_getP C hd cls_6 (k := 1) hf (by decide) ha h rfl K
  · exact g_getP C hd cls_7 (k := 1) hf (by decide) ha h rfl K
theorem g_recvP {s : State} {H : Heap} {a ci N : Nat} {Cn : String} {T : u_T} (hKE : KE E s) (hP : va_P E.1 vwCl (wd E σ) H) (hc : CLS ci Cn T N) (ha : a ∈ σ.2.2.2.1) (hK : σ.2.2.2.2.1 a = ci) : ∃ cell : Cell, H[a]? = some cell ∧ cell.vm.isStatics = false ∧ s.vm.findClass Cn = some cell.cls := by
  obtain ⟨q, hq⟩ := wd_pl E σ ha
  exact va_recv hKE.2.1 hP hc.1 (by rw [hq, wp, hK])
theorem g_cu {s : State} {args : Array Value} {idx maxL n : Nat} {x y : MethodName} {bytes : ByteArray} {ret : Option FieldType} {rm : Room} {Cn : String} (hK : KT s) (h : LKU own Cn idx x y bytes maxL ret n) (hR : FIT R rm maxL) : va_CU R s args own Cn x.cls idx x y bytes maxL ret [.code y bytes maxL ret] rm 0 0 n := by
  obtain ⟨b0, m0, r0, h0⟩ := h.2.2.2.2.2.2.2.2.1
  exact ⟨⟨hR.1, hR.2.1, hR.2.2.1, hR.2.2.2, fun w hw a' U hW => by rw [List.mem_singleton.mp hw]; exact (hK.warm hW) _ h.1 rfl a', List.mem_singleton.mpr rfl⟩, hK _ h.1 rfl args, hK _ h.2.1 rfl args, h.2.2.1, fun sig hs => by have h2 := h.2.2.2.1; rw [hs] at h2; exact (Option.some.inj h2).symm, hK _ h.2.2.2.2.1 rfl args, hK _ h.2.2.2.2.2.1 rfl args, va_Decl.of (args := args) (hK _ h.2.2.2.2.2.2.2.2.2 rfl args) (hK _ h0 rfl args), hK _ h.2.2.2.2.2.2.1 rfl args, hK _ h.2.2.2.2.2.2.2.1 rfl args⟩
theorem g_callU (C : FX Γ l cc nL own R E) {a ci idx maxL n N : Nat} {x y : MethodName} {bytes : ByteArray} {ret : Option FieldType} {rm : Room} {Cn : String} {T : u_T} {as : List Value} {r : Option Value} {σ' : ST} (hM : CT l E y bytes maxL ret rm (.ref a :: as) σ r σ') (hc : CLS ci Cn T N) (ha : a ∈ σ.2.2.2.1) (hK : σ.2.2.2.2.1 a = ci) (hk : LKU own Cn idx x y bytes maxL ret n) (hR : FIT R rm maxL) (hn : as.length = n) (hroom : (st.map fun v => v.category).sum ≤ 8) (hd : decode cc pc = .ok (.invokevirtual idx, 3)) (st0 : List Value) (hst : st0 = as.reverse ++ .ref a :: st) (K : GW Γ nL E σ' (pc + 3) lv (r.toList ++ st)) : GW Γ nL E σ pc lv st0 := by
  obtain ⟨p, l', e, R', s, m, args, below, meth, c, cs, A, Q⟩ := Γ
  obtain ⟨hx, hb, hml, hown, rfl, rfl, hKE, hHE, hA, hc1, hc2⟩ := C
  intro H locs ls hP hD hS hl
  have hfr := g_free hD hS hA
  have hpre := g_pre hKE hHE hA hP hD hS (.ref a :: as)
  exact g_after (va_runU (Ts := []) (C := Cn) ⟨hx, hb, hml, hown, fun _ h => absurd h List.not_mem_nil⟩ (hM H.size) (g_cu hKE.1 hk hR) ⟨hpre.1, g_recvP hKE hP hc ha hK, hpre.2⟩ rfl hn hl.1 hst (lv_room hroom) hd ⟨hc1, hc2⟩) hS hfr hfr (fun H1 locs1 a1 a2 a3 => K H1 locs1 ls a1 a2 a3 hl)
theorem g_callSU (C : FX Γ l cc nL own R E) {a ci idx maxL n N : Nat} {y : MethodName} {bytes : ByteArray} {ret : Option FieldType} {rm : Room} {Cn : String} {T : u_T} {as : List Value} {r : Option Value} {σ' : ST} (hM : CT l E y bytes maxL ret rm (.ref a :: as) σ r σ') (hc : CLS ci Cn T N) (ha : a ∈ σ.2.2.2.1) (hK : σ.2.2.2.2.1 a = ci) (hk : LKSU own idx y bytes maxL ret n) (hR : FIT R rm maxL) (hn : as.length = n) (hroom : (st.map fun v => v.category).sum ≤ 8) (hd : decode cc pc = .ok (.invokespecial idx, 3)) (st0 : List Value) (hst : st0 = as.reverse ++ .ref a :: st) (K : GW Γ nL E σ' (pc + 3) lv (r.toList ++ st)) : GW Γ nL E σ pc lv st0 := by
  obtain ⟨p, l', e, R', s, m, args, below, meth, c, cs, A, Q⟩ := Γ
  obtain ⟨hx, hb, hml, hown, rfl, rfl, hKE, hHE, hA, hc1, hc2⟩ := C
  intro H locs ls hP hD hS hl
  have hfr := g_free hD hS hA
  have hpre := g_pre hKE hHE hA hP hD hS (.ref a :: as)
  have hcs : va_CS R' s args own idx y bytes maxL ret [.code y bytes maxL ret] rm 0 0 n := ⟨⟨hR.1, hR.2.1, hR.2.2.1, hR.2.2.2, fun w hw a' U hW => by rw [List.mem_singleton.mp hw]; exact (hKE.1.warm hW) _ hk.1 rfl a', List.mem_singleton.mpr rfl⟩, hKE.1 _ hk.2.1 rfl args, hKE.1 _ hk.2.2.1 rfl args, hKE.1 _ hk.2.2.2.1 rfl args, hKE.1 _ hk.2.2.2.2.1 rfl args, hKE.1 _ hk.2.2.2.2.2.1 rfl args, hKE.1 _ hk.1 rfl args, hk.2.2.2.2.2.2.1, fun sig hs => by have h2 := hk.2.2.2.2.2.2.2; rw [hs] at h2; exact (Option.some.inj h2).symm⟩
  exact g_after (va_runSU (Ts := []) (C := Cn) (hKE.2.1.1 ci _ hc.1).2 ⟨hx, hb, hml, hown, fun _ h => absurd h List.not_mem_nil⟩ (hM H.size) hcs ⟨hpre.1, g_recvP hKE hP hc ha hK, hpre.2⟩ rfl hn hl.1 hst (lv_room hroom) hd ⟨hc1, hc2⟩) hS hfr hfr (fun H1 locs1 a1 a2 a3 => K H1 locs1 ls a1 a2 a3 hl)
theorem pm_isNote : (parseMethodDescriptor yX10_isNote.desc).map (fun d => d.parameters.length) = some 1 := by decide +kernel
/-- Page asks the outer class: a nest mate's private method -/
theorem g_callSN (C : FX Γ l cc nL RX4 R E) {rm : Room} {as : List Value} {r : Option Value} {σ' : ST} (hM : CT l E yX10_isNote cX10_isNote 1 (some .boolean) rm as σ r σ') (hk : (Cond.code yX10_isNote cX10_isNote 1 (some .boolean) ∈ lw_tbl) ∧ (Cond.initialized RX10 ∈ lw_tbl) ∧ (Cond.static yX10_isNote ∈ lw_tbl)) (hR : FIT R rm 1) (hn : as.length = 1) (hroom : (st.map fun v => v.category).sum ≤ 8) (hd : decode cc pc = .ok (.invokestatic 23, 3)) (st0 : List Value) (hst : st0 = as.reverse ++ st) (K : GW Γ nL E σ' (pc + 3) lv (r.toList ++ st)) : GW Γ nL E σ pc lv st0 := by
  obtain ⟨p, l', e, R', s, m, args, below, meth, c, cs, A, Q⟩ := Γ
  obtain ⟨hx, hb, hml, hown, rfl, rfl, hKE, hHE, hA, hc1, hc2⟩ := C
  intro H locs ls hP hD hS hl
  have hfr := g_free hD hS hA
  have hcn : va_CN R' s args RX4 23 yX10_isNote "KeyStreets" cX10_isNote 1 (some .boolean) [.code yX10_isNote cX10_isNote 1 (some .boolean)] rm 0 0 1 := ⟨⟨hR.1, hR.2.1, hR.2.2.1, hR.2.2.2, fun w hw a' U hW => by rw [List.mem_singleton.mp hw]; exact (hKE.1.warm hW) _ hk.1 rfl a', List.mem_singleton.mpr rfl⟩, hKE.1 _ hk.1 rfl args, hKE.1 _ hk.2.1 rfl args, ⟨by decide, by decide⟩, fun sig hs => by have h2 := pm_isNote; rw [hs] at h2; exact (Option.some.inj h2).symm, va_Nw.use rfl hKE.2.2.1⟩
  exact g_after (va_runSN (Ts := []) ⟨hx, hb, hml, hown, fun _ h => absurd h List.not_mem_nil⟩ (hM H.size) ⟨hcn, hKE.1 _ hk.2.2 rfl args, trivial⟩ (g_pre hKE hHE hA hP hD hS as) rfl hn hl.1 hst (lv_room hroom) hd ⟨hc1, hc2⟩) hS hfr hfr (fun H1 locs1 a1 a2 a3 => K H1 locs1 ls a1 a2 a3 hl)
/-- System.arraycopy between two rows of ints -/
theorem g_acp (C : FX Γ l cc nL own R E) {o0 o1 n0 n1 idx : Nat} {n : Int32} {k : Nat} {σ' : ST} (h0 : ARY o0 n0) (h1 : ARY o1 n1) (hd : decode cc pc = .ok (.invokestatic idx, 3)) (hk : (Cond.methodLink own idx arraycopyName ∈ lw_tbl) ∧ (Cond.native arraycopyName ∈ lw_tbl) ∧ (Cond.static arraycopyName ∈ lw_tbl) ∧ (Cond.initialized "java/lang/System" ∈ lw_tbl)) (hfr : 1 ≤ R.frames) (hlo : (st.map fun v => v.category).sum + (nativeFrameWords "java/lang/System" "arraycopy" 5 + 11) ≤ R.locals) (hn : ¬ n < 0) (hnk : n.toNatClampNeg = k) (hk0 : k ≤ n0) (hk1 : k ≤ n1) (hσ : uA σ o1 (va_cpy (σ.1 o0) (σ.1 o1) 0 0 k) = σ') (K : GW Γ nL E σ' (pc + 3) lv st) : GW Γ nL E σ pc lv (.int n :: .int 0 :: .ref (E.2.1 o1) :: .int 0 :: .ref (E.2.1 o0) :: st) := by
  obtain ⟨p, l', e, R', s, m, args, below, meth, c, cs, A, Q⟩ := Γ
  obtain ⟨hx, hb, hml, hown, rfl, rfl, hKE, hHE, hA, hc1, hc2⟩ := C
  subst hnk
  subst hσ
  intro H locs ls hP hD hS hl
  have hset : (wd E σ).set o1 (E.2.1 o1, .inl (E.2.2.1.1, n1, .inl (va_cpy (σ.1 o0) (σ.1 o1) (0 : Int32).toNatClampNeg (0 : Int32).toNatClampNeg n.toNatClampNeg))) = wd E (uA σ o1 (va_cpy (σ.1 o0) (σ.1 o1) 0 0 n.toNatClampNeg)) := by
    refine wd_set h1.1 ?_ (fun j hj => ⟨va_up_ne _ _ hj, rfl⟩) (Or.inr rfl) rfl
    rw [h1.2]
    show Sum.inl (E.2.2.1.1, n1, Sum.inl (va_up σ.1 o1 _ o1)) = _
    rw [va_up_self]
    rfl
  refine va_copyi (ty := .int) hx hb (hml.trans hl.1.symm) hown (hKE.1 _ hk.1 rfl args) (hKE.1 _ hk.2.1 rfl args) (hKE.1 _ hk.2.2.1 rfl args) (hKE.1 _ hk.2.2.2 rfl args) hKE.2.1 hP hD hS o0 o1 0 0 (by rw [wd_at E σ h0.1, h0.2]) (by rw [wd_at E σ h1.1, h1.2]) rfl rfl rfl (by decide) (by decide) hn (by rw [sb_cl0]; omega) (by rw [sb_cl0]; omega) (fun _ _ => rfl) hfr hlo hd (fun H1 locs1 hP1 hD1 hS1 => ?_)
  rw [hset] at hP1 hD1
  exact K H1 locs1 ls hP1 hD1 hS1 hl
/-- instanceof on a street -/
theorem g_instY (C : FX Γ l cc nL own R E) {a ci idx N : Nat} {Cn nm : String} {T : u_T} (hd : decode cc pc = .ok (.instanceof idx, 3)) (hc : CLS ci Cn T N) (ha : a ∈ σ.2.2.2.1) (hK : σ.2.2.2.2.1 a = ci) (hcl : Cond.classLink own idx nm ∈ lw_tbl) (hs : nm = Cn ∨ (Cn = RX5 ∧ nm = RX2)) (K : GW Γ nL E σ (pc + 3) lv (.int 1 :: st)) : GW Γ nL E σ pc lv (.ref a :: st) := by
  obtain ⟨p, l', e, R', s, m, args, below, meth, c, cs, A, Q⟩ := Γ
  obtain ⟨hx, hb, hml, hown, rfl, rfl, hKE, hHE, hA, hc1, hc2⟩ := C
  intro H locs ls hP hD hS hl
  have hr := g_recvP hKE hP hc ha hK
  rcases hs with rfl | ⟨rfl, rfl⟩
  · exact va_instS hx hb hown (hKE.1 _ hcl rfl args) (hKE.2.1.1 ci _ hc.1).2 hr hd (K H locs ls hP hD hS hl)
  · exact va_instY hx hb hown (hKE.1 _ hcl rfl args) (hKE.2.2.2.2.1 (RX5, RX2) List.mem_cons_self) hr hd (K H locs ls hP hD hS hl)
theorem g_instNo (C : FX Γ l cc nL own R E) {a ci idx N : Nat} {Cn nm : String} {T : u_T} (hd : decode cc pc = .ok (.instanceof idx, 3)) (hc : CLS ci Cn T N) (ha : a ∈ σ.2.2.2.1) (hK : σ.2.2.2.2.1 a = ci) (hcl : Cond.classLink own idx nm ∈ lw_tbl) (hs : (Cn, nm) ∈ [(RX0, RX2), (RX6, RX2), (RX7, RX2), (RX2, RX0), (RX5, RX0), (RX6, RX0), (RX7, RX0), (RX0, RX6), (RX2, RX6), (RX5, RX6), (RX7, RX6), (RX0, RX5), (RX2, RX5), (RX6, RX5), (RX7, RX5)]) (K : GW Γ nL E σ (pc + 3) lv (.int 0 :: st)) : GW Γ nL E σ pc lv (.ref a :: st) := by
  obtain ⟨p, l', e, R', s, m, args, below, meth, c, cs, A, Q⟩ := Γ
  obtain ⟨hx, hb, hml, hown, rfl, rfl, hKE, hHE, hA, hc1, hc2⟩ := C
  intro H locs ls hP hD hS hl
  exact va_instNo hx hb hown (hKE.1 _ hcl rfl args) (hKE.2.2.2.2.2 _ hs) (g_recvP hKE hP hc ha hK) hd (K H locs ls hP hD hS hl)
/-- the kinds that an instanceof takes: 2 and 5, or one alone -/
def isK (k : Nat) (ks : List Nat) : Int32 := if k ∈ ks then 1 else 0
theorem g_inst2 (C : FX Γ l cc nL own R E) {a idx : Nat} (hcl : Cond.classLink own idx RX2 ∈ lw_tbl) (hd : decode cc pc = .ok (.instanceof idx, 3)) (hp : pv σ a) (K : GW Γ nL E σ (pc + 3) lv (.int (isK (σ.2.2.2.2.1 a) [2, 5]) :: st)) : GW Γ nL E σ pc lv (.ref a :: st) := by
  rcases hp with ⟨ha, h | h | h | h | h⟩ <;> rw [h] at K
  · exact g_instNo C hd cls_0 ha h hcl (by decide +kernel) K
  · exact g_instY C hd cls_2 ha h hcl (Or.inl rfl) K
  · exact g_instY C hd cls_5 ha h hcl (Or.inr ⟨rfl, rfl⟩) K
  · exact g_instNo C hd cls_6 ha h hcl (by decide +kernel) K
  · exact g_instNo C hd cls_7 ha h hcl (by decide +kernel) K
theorem g_inst0 (C : FX Γ l cc nL own R E) {a idx : Nat} (hcl : Cond.classLink own idx RX0 ∈ lw_tbl) (hd : decode cc pc = .ok (.instanceof idx, 3)) (hp : pv σ a) (K : GW Γ nL E σ (pc + 3) lv (.int (isK (σ.2.2.2.2.1 a) [0]) :: st)) : GW Γ nL E σ pc lv (.ref a :: st) := by
  rcases hp with ⟨ha, h | h | h | h | h⟩ <;> rw [h] at K
  · exact g_instY C hd cls_0 ha h hcl (Or.inl rfl) K
  · exact g_instNo C hd cls_2 ha h hcl (by decide +kernel) K
  · exact g_instNo C hd cls_5 ha h hcl (by decide +kernel) K
  · exact g_instNo C hd cls_6 ha h hcl (by decide +kernel) K
  · exact g_instNo C hd cls_7 ha h hcl (by decide +kernel) K
theorem g_inst6 (C : FX Γ l cc nL own R E) {a idx : Nat} (hcl : Cond.classLink own idx RX6 ∈ lw_tbl) (hd : decode cc pc = .ok (.instanceof idx, 3)) (hp : pv σ a) (K : GW Γ nL E σ (pc + 3) lv (.int (isK (σ.2.2.2.2.1 a) [6]) :: st)) : GW Γ nL E σ pc lv (.ref a :: st) := by
  rcases hp with ⟨ha, h | h | h | h | h⟩ <;> rw [h] at K
  · exact g_instNo C hd cls_0 ha h hcl (by decide +kernel) K
  · exact g_instNo C hd cls_2 ha h hcl (by decide +kernel) K
  · exact g_instNo C hd cls_5 ha h hcl (by decide +kernel) K
  · exact g_instY C hd cls_6 ha h hcl (Or.inl rfl) K
  · exact g_instNo C hd cls_7 ha h hcl (by decide +kernel) K
theorem g_inst5 (C : FX Γ l cc nL own R E) {a idx : Nat} (hcl : Cond.classLink own idx RX5 ∈ lw_tbl) (hd : decode cc pc = .ok (.instanceof idx, 3)) (hp : pv σ a) (K : GW Γ nL E σ (pc + 3) lv (.int (isK (σ.2.2.2.2.1 a) [5]) :: st)) : GW Γ nL E σ pc lv (.ref a :: st) := by
  rcases hp with ⟨ha, h | h | h | h | h⟩ <;> rw [h] at K
  · exact g_instNo C hd cls_0 ha h hcl (by decide +kernel) K
  · exact g_instNo C hd cls_2 ha h hcl (by decide +kernel) K
  · exact g_instY C hd cls_5 ha h hcl (Or.inl rfl) K
  · exact g_instNo C hd cls_6 ha h hcl (by decide +kernel) K
  · exact g_instNo C hd cls_7 ha h hcl (by decide +kernel) K
/-! the text of kinds -/
def bK (k : Nat) : Int32 := ([115, 109, 98, 112, 105] : List Int32).getD k 0
theorem g_ldcS (C : FX Γ l cc nL RX4 R E) (hd : decode cc pc = .ok (.ldc 27, 2)) (K : GW Γ nL E σ (pc + 2) lv (.ref (E.2.2.2.1 0) :: st)) : GW Γ nL E σ pc lv st := by
  obtain ⟨p, l', e, R', s, m, args, below, meth, c, cs, A, Q⟩ := Γ
  obtain ⟨hx, hb, hml, hown, rfl, rfl, hKE, hHE, hA, hc1, hc2⟩ := C
  intro H locs ls hP hD hS hl
  exact va_ldcS hx hb hown hKE.2.2.2.1 hd (K H locs ls hP hD hS hl)
theorem g_sval (C : FX Γ l cc nL RJ0 R E) (hk : Cond.fieldLink RJ0 9 "java/lang/String" "value" "[B" ∈ lw_tbl) (hd : decode cc pc = .ok (.getfield 9, 3)) (K : GW Γ nL E σ (pc + 3) lv (.ref (E.2.2.2.2 0) :: st)) : GW Γ nL E σ pc lv (.ref (E.2.2.2.1 0) :: st) := by
  obtain ⟨p, l', e, R', s, m, args, below, meth, c, cs, A, Q⟩ := Γ
  obtain ⟨hx, hb, hml, hown, rfl, rfl, hKE, hHE, hA, hc1, hc2⟩ := C
  intro H locs ls hP hD hS hl
  exact vk_getf hx hb (hHE.1.1 0 (by decide)).2.2.1 hS hown (hKE.1 _ hk rfl args) (fun _ h => h) hd (K H locs ls hP hD hS hl)
theorem g_scod (C : FX Γ l cc nL RJ0 R E) (hk : Cond.fieldLink RJ0 15 "java/lang/String" "coder" "B" ∈ lw_tbl) (hd : decode cc pc = .ok (.getfield 15, 3)) (K : GW Γ nL E σ (pc + 3) lv (.int 0 :: st)) : GW Γ nL E σ pc lv (.ref (E.2.2.2.1 0) :: st) := by
  obtain ⟨p, l', e, R', s, m, args, below, meth, c, cs, A, Q⟩ := Γ
  obtain ⟨hx, hb, hml, hown, rfl, rfl, hKE, hHE, hA, hc1, hc2⟩ := C
  intro H locs ls hP hD hS hl
  exact vk_getf hx hb (hHE.1.1 0 (by decide)).2.1 hS hown (hKE.1 _ hk rfl args) (fun _ h => h) hd (K H locs ls hP hD hS hl)
theorem g_scomp (C : FX Γ l cc nL RJ0 R E) (hk : Cond.fieldLink RJ0 38 "java/lang/String" "COMPACT_STRINGS" "Z" ∈ lw_tbl) (hd : decode cc pc = .ok (.getstatic 38, 3)) (K : GW Γ nL E σ (pc + 3) lv (.int 1 :: st)) : GW Γ nL E σ pc lv st := by
  obtain ⟨p, l', e, R', s, m, args, below, meth, c, cs, A, Q⟩ := Γ
  obtain ⟨hx, hb, hml, hown, rfl, rfl, hKE, hHE, hA, hc1, hc2⟩ := C
  intro H locs ls hP hD hS hl
  exact va_gets hx hb hHE.2 hS hown (hKE.1 _ hk rfl args) (fun _ h => h) hd (K H locs ls hP hD hS hl)
theorem g_blen (C : FX Γ l cc nL own R E) (hd : decode cc pc = .ok (.arraylength, 1)) (K : GW Γ nL E σ (pc + 1) lv (.int 5 :: st)) : GW Γ nL E σ pc lv (.ref (E.2.2.2.2 0) :: st) := by
  obtain ⟨p, l', e, R', s, m, args, below, meth, c, cs, A, Q⟩ := Γ
  obtain ⟨hx, hb, hml, hown, rfl, rfl, hKE, hHE, hA, hc1, hc2⟩ := C
  intro H locs ls hP hD hS hl
  exact va_tlen hx hb (hHE.1.1 0 (by decide)).2.2.2 hS (by decide) hd (K H locs ls hP hD hS hl)
theorem g_bald (C : FX Γ l cc nL own R E) {i : Int32} (hd : decode cc pc = .ok (.baload, 1)) (hi : inB i 5) (K : GW Γ nL E σ (pc + 1) lv (.int (bK i.toNatClampNeg) :: st)) : GW Γ nL E σ pc lv (.int i :: .ref (E.2.2.2.2 0) :: st) := by
  obtain ⟨p, l', e, R', s, m, args, below, meth, c, cs, A, Q⟩ := Γ
  obtain ⟨hx, hb, hml, hown, rfl, rfl, hKE, hHE, hA, hc1, hc2⟩ := C
  intro H locs ls hP hD hS hl
  exact va_tb hx hb (hHE.1.1 0 (by decide)).2.2.2 hS hi rfl hd (K H locs ls hP hD hS hl)
theorem g_callVS (C : FX Γ l cc nL own R E) {idx maxL n : Nat} {y : MethodName} {bytes : ByteArray} {ret : Option FieldType} {rm : Room} {as : List Value} {r : Option Value} {σ' : ST} (hM : CT l E y bytes maxL ret rm (.ref (E.2.2.2.1 0) :: as) σ r σ') (hk : LKV own "java/lang/String" idx y bytes maxL ret n) (hR : FIT R rm maxL) (hn : as.length = n) (hroom : (st.map fun v => v.category).sum ≤ 8) (hd : decode cc pc = .ok (.invokevirtual idx, 3)) (st0 : List Value) (hst : st0 = as.reverse ++ .ref (E.2.2.2.1 0) :: st) (K : GW Γ nL E σ' (pc + 3) lv (r.toList ++ st)) : GW Γ nL E σ pc lv st0 := by
  obtain ⟨p, l', e, R', s, m, args, below, meth, c, cs, A, Q⟩ := Γ
  obtain ⟨hx, hb, hml, hown, rfl, rfl, hKE, hHE, hA, hc1, hc2⟩ := C
  intro H locs ls hP hD hS hl
  have hfr := g_free hD hS hA
  have hpre := g_pre hKE hHE hA hP hD hS (.ref (E.2.2.2.1 0) :: as)
  exact g_after (va_runV (Ts := []) (C := "java/lang/String") ⟨hx, hb, hml, hown, fun _ h => absurd h List.not_mem_nil⟩ (hM H.size) ⟨g_callB hKE.1 hk.1 hR, hKE.1 _ hk.2.1 rfl args, hKE.1 _ hk.2.2 rfl args⟩ ⟨hpre.1, vk_recv (i := 0) hHE.1 (by decide) hS, hpre.2⟩ rfl hn hl.1 hst (lv_room hroom) hd ⟨hc1, hc2⟩) hS hfr hfr (fun H1 locs1 a1 a2 a3 => K H1 locs1 ls a1 a2 a3 hl)
end RULES3
