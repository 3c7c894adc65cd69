theorem fp_X10_68_0 {Γ : CX} {l : Launch} {cc : ByteArray} {nL : Nat} {R : Room} {E : EV} {σ : ST} {pc : Nat} {lv : List (Nat × Value)} {st : List Value} {x : Int32} {σ' : ST} (C : FX Γ l cc nL RX10 R E) (hd : decode cc pc = .ok (.putfield 68, 3)) (hσ : uI σ 0 5 x = σ') (K : GW Γ nL E σ' (pc + 3) lv st) : GW Γ nL E σ pc lv (.int x :: .ref (E.2.1 0) :: st) := by
  subst hσ
  exact g_put C 0 (uI σ 0 5 x) hd cls_9 fl_X10_68 tyX10 tyX10_ok nmX10 (by decide) (by decide) rfl rfl rfl rfl rfl (Nat.le_of_ble_eq_true rfl) rfl (fun j hj => ⟨va_up_ne _ _ hj, rfl⟩) rfl K
theorem fl_X1_23 : FLD RX1 23 TX1 1 := tb 58 (by decide +kernel)
theorem fp_X1_23_4 {Γ : CX} {l : Launch} {cc : ByteArray} {nL : Nat} {R : Room} {E : EV} {σ : ST} {pc : Nat} {lv : List (Nat × Value)} {st : List Value} {x : Int32} {σ' : ST} (C : FX Γ l cc nL RX1 R E) (hd : decode cc pc = .ok (.putfield 23, 3)) (hσ : uI σ 4 1 x = σ') (K : GW Γ nL E σ' (pc + 3) lv st) : GW Γ nL E σ pc lv (.int x :: .ref (E.2.1 4) :: st) := by
  subst hσ
  exact g_put C 4 (uI σ 4 1 x) hd cls_1 fl_X1_23 tyX1 tyX1_ok nmX1 (by decide) (by decide) rfl rfl rfl rfl rfl (Nat.le_of_ble_eq_true rfl) rfl (fun j hj => ⟨va_up_ne _ _ hj, rfl⟩) rfl K
theorem fp_X1_36_4 {Γ : CX} {l : Launch} {cc : ByteArray} {nL : Nat} {R : Room} {E : EV} {σ : ST} {pc : Nat} {lv : List (Nat × Value)} {st : List Value} {x : Int32} {σ' : ST} (C : FX Γ l cc nL RX1 R E) (hd : decode cc pc = .ok (.putfield 36, 3)) (hσ : uI σ 4 2 x = σ') (K : GW Γ nL E σ' (pc + 3) lv st) : GW Γ nL E σ pc lv (.int x :: .ref (E.2.1 4) :: st) := by
  subst hσ
  exact g_put C 4 (uI σ 4 2 x) hd cls_1 fl_X1_36 tyX1 tyX1_ok nmX1 (by decide) (by decide) rfl rfl rfl rfl rfl (Nat.le_of_ble_eq_true rfl) rfl (fun j hj => ⟨va_up_ne _ _ hj, rfl⟩) rfl K
theorem k_X10_51 : LKV RX10 RX4 51 yX4_isCity cX4_isCity 2 (some .boolean) 0 := ⟨⟨tb 320 (by decide +kernel), tb 2 (by decide +kernel), by decide, by decide, tb 317 (by decide +kernel)⟩, tb 318 (by decide +kernel), tb 319 (by decide +kernel)⟩
theorem k_X10_55 : LKV RX10 RX1 55 yX1_read cX1_read 3 none 1 := ⟨⟨tb 325 (by decide +kernel), tb 4 (by decide +kernel), by decide, by decide, tb 322 (by decide +kernel)⟩, tb 323 (by decide +kernel), tb 324 (by decide +kernel)⟩
theorem k_X10_64 : LKV RX10 RX3 64 yX3_enter cX3_enter 4 none 2 := ⟨⟨tb 400 (by decide +kernel), tb 5 (by decide +kernel), by decide, by decide, tb 397 (by decide +kernel)⟩, tb 398 (by decide +kernel), tb 399 (by decide +kernel)⟩
theorem k_X1_17 : LKV RX1 RX4 17 yX4_digitAt cX4_digitAt 2 (some .int) 1 := ⟨⟨tb 209 (by decide +kernel), tb 2 (by decide +kernel), by decide, by decide, tb 326 (by decide +kernel)⟩, tb 207 (by decide +kernel), tb 208 (by decide +kernel)⟩
theorem k_X1_27 : LKV RX1 RX4 27 yX4_streets cX4_streets 1 (some .int) 0 := ⟨⟨tb 330 (by decide +kernel), tb 2 (by decide +kernel), by decide, by decide, tb 327 (by decide +kernel)⟩, tb 328 (by decide +kernel), tb 329 (by decide +kernel)⟩
theorem k_X1_39 : LKV RX1 RX4 39 yX4_kindOf cX4_kindOf 2 (some .int) 1 := ⟨⟨tb 335 (by decide +kernel), tb 2 (by decide +kernel), by decide, by decide, tb 332 (by decide +kernel)⟩, tb 333 (by decide +kernel), tb 334 (by decide +kernel)⟩
theorem k_X1_42 : LKV RX1 RX4 42 yX4_oneEndOf cX4_oneEndOf 2 (some .int) 1 := ⟨⟨tb 339 (by decide +kernel), tb 2 (by decide +kernel), by decide, by decide, tb 336 (by decide +kernel)⟩, tb 337 (by decide +kernel), tb 338 (by decide +kernel)⟩
theorem k_X1_45 : LKV RX1 RX4 45 yX4_otherEndOf cX4_otherEndOf 2 (some .int) 1 := ⟨⟨tb 343 (by decide +kernel), tb 2 (by decide +kernel), by decide, by decide, tb 340 (by decide +kernel)⟩, tb 341 (by decide +kernel), tb 342 (by decide +kernel)⟩
theorem k_X1_48 : LKS RX1 48 yX1_make cX1_make 3 (some (.object "KeyStreets$Street")) 3 := ⟨⟨tb 346 (by decide +kernel), tb 4 (by decide +kernel), by decide, by decide, tb 344 (by decide +kernel)⟩, tb 345 (by decide +kernel)⟩
theorem mk_X1_30 : (Cond.methodLink RX1 30 Lib.Math.min.name ∈ lw_tbl) ∧ (Cond.static Lib.Math.min.name ∈ lw_tbl) ∧ (Cond.initialized "java/lang/Math" ∈ lw_tbl) ∧ (Cond.code Lib.Math.min.name Lib.Math.min.code 2 (some .int) ∈ lw_tbl) := ⟨tb 331 (by decide +kernel), tb 247 (by decide +kernel), tb 9 (by decide +kernel), tb 248 (by decide +kernel)⟩
theorem oi_X7 : (Cond.methodLink RX7 3 objectInit ∈ lw_tbl) ∧ (Cond.instanceMethod objectInit ∈ lw_tbl) ∧ (Cond.code objectInit ⟨#[0xb1]⟩ 1 none ∈ lw_tbl) := ⟨tb 355 (by decide +kernel), tb 26 (by decide +kernel), tb 27 (by decide +kernel)⟩
theorem nw_X1_9 : NEW RX1 9 RX7 := ⟨tb 55 (by decide +kernel), tb 392 (by decide +kernel), tb 13 (by decide +kernel)⟩
theorem nw_X1_52 : NEW RX1 52 RX2 := ⟨tb 347 (by decide +kernel), tb 348 (by decide +kernel), tb 14 (by decide +kernel)⟩
theorem nw_X1_57 : NEW RX1 57 RX0 := ⟨tb 365 (by decide +kernel), tb 366 (by decide +kernel), tb 15 (by decide +kernel)⟩
theorem nw_X1_60 : NEW RX1 60 RX6 := ⟨tb 374 (by decide +kernel), tb 375 (by decide +kernel), tb 16 (by decide +kernel)⟩
theorem nw_X1_63 : NEW RX1 63 RX5 := ⟨tb 383 (by decide +kernel), tb 384 (by decide +kernel), tb 17 (by decide +kernel)⟩
theorem kb_X0_3 : LKB RX0 3 yX7_init cX7_init 3 none 2 := ⟨tb 354 (by decide +kernel), tb 13 (by decide +kernel), ⟨by decide, by decide⟩, by decide +kernel, tb 370 (by decide +kernel)⟩
theorem ki_X0_3 : Cond.instanceMethod yX7_init ∈ lw_tbl := tb 353 (by decide +kernel)
theorem kb_X2_3 : LKB RX2 3 yX7_init cX7_init 3 none 2 := ⟨tb 354 (by decide +kernel), tb 13 (by decide +kernel), ⟨by decide, by decide⟩, by decide +kernel, tb 352 (by decide +kernel)⟩
theorem ki_X2_3 : Cond.instanceMethod yX7_init ∈ lw_tbl := tb 353 (by decide +kernel)
theorem kb_X5_3 : LKB RX5 3 yX2_init cX2_init 3 none 2 := ⟨tb 351 (by decide +kernel), tb 14 (by decide +kernel), ⟨by decide, by decide⟩, by decide +kernel, tb 388 (by decide +kernel)⟩
theorem ki_X5_3 : Cond.instanceMethod yX2_init ∈ lw_tbl := tb 350 (by decide +kernel)
theorem kb_X6_3 : LKB RX6 3 yX7_init cX7_init 3 none 2 := ⟨tb 354 (by decide +kernel), tb 13 (by decide +kernel), ⟨by decide, by decide⟩, by decide +kernel, tb 379 (by decide +kernel)⟩
theorem ki_X6_3 : Cond.instanceMethod yX7_init ∈ lw_tbl := tb 353 (by decide +kernel)
theorem kb_X1_54 : LKB RX1 54 yX2_init cX2_init 3 none 2 := ⟨tb 351 (by decide +kernel), tb 14 (by decide +kernel), ⟨by decide, by decide⟩, by decide +kernel, tb 349 (by decide +kernel)⟩
theorem ki_X1_54 : Cond.instanceMethod yX2_init ∈ lw_tbl := tb 350 (by decide +kernel)
theorem kb_X1_59 : LKB RX1 59 yX0_init cX0_init 3 none 2 := ⟨tb 369 (by decide +kernel), tb 15 (by decide +kernel), ⟨by decide, by decide⟩, by decide +kernel, tb 367 (by decide +kernel)⟩
theorem ki_X1_59 : Cond.instanceMethod yX0_init ∈ lw_tbl := tb 368 (by decide +kernel)
theorem kb_X1_62 : LKB RX1 62 yX6_init cX6_init 3 none 2 := ⟨tb 378 (by decide +kernel), tb 16 (by decide +kernel), ⟨by decide, by decide⟩, by decide +kernel, tb 376 (by decide +kernel)⟩
theorem ki_X1_62 : Cond.instanceMethod yX6_init ∈ lw_tbl := tb 377 (by decide +kernel)
theorem kb_X1_65 : LKB RX1 65 yX5_init cX5_init 3 none 2 := ⟨tb 387 (by decide +kernel), tb 17 (by decide +kernel), ⟨by decide, by decide⟩, by decide +kernel, tb 385 (by decide +kernel)⟩
theorem ki_X1_65 : Cond.instanceMethod yX5_init ∈ lw_tbl := tb 386 (by decide +kernel)
theorem kb_X1_66 : LKB RX1 66 yX7_init cX7_init 3 none 2 := ⟨tb 354 (by decide +kernel), tb 13 (by decide +kernel), ⟨by decide, by decide⟩, by decide +kernel, tb 393 (by decide +kernel)⟩
theorem ki_X1_66 : Cond.instanceMethod yX7_init ∈ lw_tbl := tb 353 (by decide +kernel)
abbrev rm_X7_init : Room := { frames := 1, cells := 0, slots := 0, locals := 20 }
set_option maxRecDepth 100000 in
set_option maxHeartbeats 4000000 in
theorem c_X7_init (l : Launch) (E : EV) {σ : ST} {q : Nat} {x y : Int32} (hp : pv σ q) : CT l E yX7_init cX7_init 3 none rm_X7_init [.ref q, .int x, .int y] σ none (setQ (setO σ q x) q y) := by
  refine CT.ofI RX7 rfl rfl (by decide) (Nat.le_of_ble_eq_true rfl) rfl rfl (fun Γ C hI hR => ?_)
  show GW Γ 3 E σ 0 [(0, .ref q), (1, .int x), (2, .int y)] []
  refine g_aload_n C 0 dX7_init_0 rfl ?_
  refine g_objI C oi_X7 dX7_init_1 (Nat.le_of_ble_eq_true rfl) (Nat.le_of_ble_eq_true rfl) ?_
  refine g_aload_n C 0 dX7_init_4 rfl ?_
  refine g_iload_n C 1 dX7_init_5 rfl ?_
  have K : GW Γ 3 E (setO σ q x) 9 [(0, .ref q), (1, .int x), (2, .int y)] [] := by
    refine g_aload_n C 0 dX7_init_9 rfl ?_
    refine g_iload_n C 2 dX7_init_10 rfl ?_
    have K2 : GW Γ 3 E (setQ (setO σ q x) q y) 14 [(0, .ref q), (1, .int x), (2, .int y)] [] := g_vret C hR dX7_init_14
    rcases hp.2 with h | h | h | h | h
    · exact g_putS C hI (setQ (setO σ q x) q y) tyX0 tyX0_ok nmX0 dX7_init_11 cls_0 (k := 1) sf_X7_15 (by decide) rfl rfl rfl hp.1 h rfl rfl rfl rfl (fun a ha => by simp [wp, setQ, setO, va_up, ha]) (by simp [wp, setQ, setO, va_up, h]) K2
    · exact g_putS C hI (setQ (setO σ q x) q y) tyX2 tyX2_ok nmX2 dX7_init_11 cls_2 (k := 1) sf_X7_15 (by decide) rfl rfl rfl hp.1 h rfl rfl rfl rfl (fun a ha => by simp [wp, setQ, setO, va_up, ha]) (by simp [wp, setQ, setO, va_up, h]) K2
    · exact g_putS C hI (setQ (setO σ q x) q y) tyX5 tyX5_ok nmX5 dX7_init_11 cls_5 (k := 1) sf_X7_15 (by decide) rfl rfl rfl hp.1 h rfl rfl rfl rfl (fun a ha => by simp [wp, setQ, setO, va_up, ha]) (by simp [wp, setQ, setO, va_up, h]) K2
    · exact g_putS C hI (setQ (setO σ q x) q y) tyX6 tyX6_ok nmX6 dX7_init_11 cls_6 (k := 1) sf_X7_15 (by decide) rfl rfl rfl hp.1 h rfl rfl rfl rfl (fun a ha => by simp [wp, setQ, setO, va_up, ha]) (by simp [wp, setQ, setO, va_up, h]) K2
    · exact g_putS C hI (setQ (setO σ q x) q y) tyX7 tyX7_ok nmX7 dX7_init_11 cls_7 (k := 1) sf_X7_15 (by decide) rfl rfl rfl hp.1 h rfl rfl rfl rfl (fun a ha => by simp [wp, setQ, setO, va_up, ha]) (by simp [wp, setQ, setO, va_up, h]) K2
  rcases hp.2 with h | h | h | h | h
  · exact g_putS C hI (setO σ q x) tyX0 tyX0_ok nmX0 dX7_init_6 cls_0 (k := 0) sf_X7_9 (by decide) rfl rfl rfl hp.1 h rfl rfl rfl rfl (fun a ha => by simp [wp, setO, va_up, ha]) (by simp [wp, setO, va_up, h]) K
  · exact g_putS C hI (setO σ q x) tyX2 tyX2_ok nmX2 dX7_init_6 cls_2 (k := 0) sf_X7_9 (by decide) rfl rfl rfl hp.1 h rfl rfl rfl rfl (fun a ha => by simp [wp, setO, va_up, ha]) (by simp [wp, setO, va_up, h]) K
  · exact g_putS C hI (setO σ q x) tyX5 tyX5_ok nmX5 dX7_init_6 cls_5 (k := 0) sf_X7_9 (by decide) rfl rfl rfl hp.1 h rfl rfl rfl rfl (fun a ha => by simp [wp, setO, va_up, ha]) (by simp [wp, setO, va_up, h]) K
  · exact g_putS C hI (setO σ q x) tyX6 tyX6_ok nmX6 dX7_init_6 cls_6 (k := 0) sf_X7_9 (by decide) rfl rfl rfl hp.1 h rfl rfl rfl rfl (fun a ha => by simp [wp, setO, va_up, ha]) (by simp [wp, setO, va_up, h]) K
  · exact g_putS C hI (setO σ q x) tyX7 tyX7_ok nmX7 dX7_init_6 cls_7 (k := 0) sf_X7_9 (by decide) rfl rfl rfl hp.1 h rfl rfl rfl rfl (fun a ha => by simp [wp, setO, va_up, ha]) (by simp [wp, setO, va_up, h]) K
abbrev rm_X0_init : Room := { frames := 2, cells := 0, slots := 0, locals := 42 }
set_option maxRecDepth 100000 in
set_option maxHeartbeats 4000000 in
theorem c_X0_init (l : Launch) (E : EV) {σ : ST} {q : Nat} {x y : Int32} (hp : pv σ q) : CT l E yX0_init cX0_init 3 none rm_X0_init [.ref q, .int x, .int y] σ none (setQ (setO σ q x) q y) := by
  refine CT.of RX0 rfl (by decide) (Nat.le_of_ble_eq_true rfl) rfl rfl (fun Γ C hR => ?_)
  show GW Γ 3 E σ 0 [(0, .ref q), (1, .int x), (2, .int y)] []
  refine g_aload_n C 0 dX0_init_0 rfl ?_
  refine g_iload_n C 1 dX0_init_1 rfl ?_
  refine g_iload_n C 2 dX0_init_2 rfl ?_
  refine g_callI C (c_X7_init l E hp) kb_X0_3 rfl ki_X0_3 ⟨rfl, rfl, Nat.le_of_ble_eq_true rfl, Nat.le_of_ble_eq_true rfl⟩ rfl (Nat.le_of_ble_eq_true rfl) dX0_init_3 _ rfl ?_
  exact g_vret C hR dX0_init_6
abbrev rm_X2_init : Room := { frames := 2, cells := 0, slots := 0, locals := 42 }
set_option maxRecDepth 100000 in
set_option maxHeartbeats 4000000 in
theorem c_X2_init (l : Launch) (E : EV) {σ : ST} {q : Nat} {x y : Int32} (hp : pv σ q) : CT l E yX2_init cX2_init 3 none rm_X2_init [.ref q, .int x, .int y] σ none (setQ (setO σ q x) q y) := by
  refine CT.of RX2 rfl (by decide) (Nat.le_of_ble_eq_true rfl) rfl rfl (fun Γ C hR => ?_)
  show GW Γ 3 E σ 0 [(0, .ref q), (1, .int x), (2, .int y)] []
  refine g_aload_n C 0 dX2_init_0 rfl ?_
  refine g_iload_n C 1 dX2_init_1 rfl ?_
  refine g_iload_n C 2 dX2_init_2 rfl ?_
  refine g_callI C (c_X7_init l E hp) kb_X2_3 rfl ki_X2_3 ⟨rfl, rfl, Nat.le_of_ble_eq_true rfl, Nat.le_of_ble_eq_true rfl⟩ rfl (Nat.le_of_ble_eq_true rfl) dX2_init_3 _ rfl ?_
  exact g_vret C hR dX2_init_6
abbrev rm_X6_init : Room := { frames := 2, cells := 0, slots := 0, locals := 42 }
set_option maxRecDepth 100000 in
set_option maxHeartbeats 4000000 in
theorem c_X6_init (l : Launch) (E : EV) {σ : ST} {q : Nat} {x y : Int32} (hp : pv σ q) : CT l E yX6_init cX6_init 3 none rm_X6_init [.ref q, .int x, .int y] σ none (setQ (setO σ q x) q y) := by
  refine CT.of RX6 rfl (by decide) (Nat.le_of_ble_eq_true rfl) rfl rfl (fun Γ C hR => ?_)
  show GW Γ 3 E σ 0 [(0, .ref q), (1, .int x), (2, .int y)] []
  refine g_aload_n C 0 dX6_init_0 rfl ?_
  refine g_iload_n C 1 dX6_init_1 rfl ?_
  refine g_iload_n C 2 dX6_init_2 rfl ?_
  refine g_callI C (c_X7_init l E hp) kb_X6_3 rfl ki_X6_3 ⟨rfl, rfl, Nat.le_of_ble_eq_true rfl, Nat.le_of_ble_eq_true rfl⟩ rfl (Nat.le_of_ble_eq_true rfl) dX6_init_3 _ rfl ?_
  exact g_vret C hR dX6_init_6
abbrev rm_X5_init : Room := { frames := 3, cells := 0, slots := 0, locals := 84 }
set_option maxRecDepth 100000 in
set_option maxHeartbeats 4000000 in
theorem c_X5_init (l : Launch) (E : EV) {σ : ST} {q : Nat} {x y : Int32} (hp : pv σ q) : CT l E yX5_init cX5_init 3 none rm_X5_init [.ref q, .int x, .int y] σ none (setQ (setO σ q x) q y) := by
  refine CT.of RX5 rfl (by decide) (Nat.le_of_ble_eq_true rfl) rfl rfl (fun Γ C hR => ?_)
  show GW Γ 3 E σ 0 [(0, .ref q), (1, .int x), (2, .int y)] []
  refine g_aload_n C 0 dX5_init_0 rfl ?_
  refine g_iload_n C 1 dX5_init_1 rfl ?_
  refine g_iload_n C 2 dX5_init_2 rfl ?_
  refine g_callI C (c_X2_init l E hp) kb_X5_3 rfl ki_X5_3 ⟨rfl, rfl, Nat.le_of_ble_eq_true rfl, Nat.le_of_ble_eq_true rfl⟩ rfl (Nat.le_of_ble_eq_true rfl) dX5_init_3 _ rfl ?_
  exact g_vret C hR dX5_init_6
def ck (k : Int32) : Nat := if k = 1 then 2 else if k = 2 then 0 else if k = 3 then 6 else if k = 4 then 5 else 7
theorem ck_pv (k : Int32) : ck k = 0 ∨ ck k = 2 ∨ ck k = 5 ∨ ck k = 6 ∨ ck k = 7 := by
  unfold ck; repeat' split
  all_goals simp
theorem addS_pv {σ : ST} {q ci : Nat} {x y : Int32} (h : ci = 0 ∨ ci = 2 ∨ ci = 5 ∨ ci = 6 ∨ ci = 7) : pv (addS σ q ci x y) q := ⟨by simp [addS], by simpa [addS, va_up] using h⟩
theorem addS_set {σ : ST} {q ci : Nat} {x y x0 y0 : Int32} : setQ (setO (addS σ q ci x0 y0) q x) q y = addS σ q ci x y := by
  simp only [setQ, setO, addS, Prod.mk.injEq, true_and]
  exact ⟨funext fun a => by by_cases h : a = q <;> simp [va_up, h], funext fun a => by by_cases h : a = q <;> simp [va_up, h]⟩
abbrev rm_X1_make : Room := { frames := 4, cells := 1, slots := 2, locals := 130 }
set_option maxRecDepth 100000 in
set_option maxHeartbeats 4000000 in
theorem c_X1_make (l : Launch) (E : EV) {σ : ST} {k x y : Int32} : CTA l E yX1_make cX1_make 3 (some (.object "KeyStreets$Street")) rm_X1_make [.int k, .int x, .int y] σ 1 2 (fun r σ' => ∃ q, q ∉ σ.2.2.2.1 ∧ r = some (.ref q) ∧ σ' = addS σ q (ck k) x y) := by
  refine CTA.of RX1 rfl (by decide) (Nat.le_of_ble_eq_true rfl) (fun Γ C hcs hR => ?_)
  show GW Γ 3 E σ 0 [(0, .int k), (1, .int x), (2, .int y)] []
  have hC2 := C.sc (k := 1) (n := 2) (Nat.le_of_ble_eq_true rfl) (Nat.le_of_ble_eq_true rfl)
  refine g_iload_n C 0 dX1_make_0 rfl ?_
  by_cases c1 : k = 1
  · refine g_tabIn C 1 (tgt := 32) dX1_make_1 c1 (by decide) (by decide) rfl (by decide) ?_
    have hck : ck k = 2 := by subst c1; decide
    refine g_new C hcs tyX2 tyX2_ok rfl rfl cls_2 nw_X1_52 (Nat.le_of_ble_eq_true rfl) (Nat.le_of_ble_eq_true rfl) dX1_make_32 (fun q hq => ?_)
    refine g_dup hC2 dX1_make_35 rfl ?_
    refine g_iload_n hC2 1 dX1_make_36 rfl ?_
    refine g_iload_n hC2 2 dX1_make_37 rfl ?_
    refine g_callI hC2 (c_X2_init l E (addS_pv (by decide))) kb_X1_54 rfl ki_X1_54 ⟨rfl, rfl, Nat.le_of_ble_eq_true rfl, Nat.le_of_ble_eq_true rfl⟩ rfl (Nat.le_of_ble_eq_true rfl) dX1_make_38 _ rfl ?_
    rw [addS_set]
    exact g_aretR hC2 (hR (some (va_rf (some q))) _ ⟨q, hq, rfl, by rw [hck]⟩) rfl dX1_make_41
  by_cases c2 : k = 2
  · refine g_tabIn C 2 (tgt := 42) dX1_make_1 c2 (by decide) (by decide) rfl (by decide) ?_
    have hck : ck k = 0 := by subst c2; decide
    refine g_new C hcs tyX0 tyX0_ok rfl rfl cls_0 nw_X1_57 (Nat.le_of_ble_eq_true rfl) (Nat.le_of_ble_eq_true rfl) dX1_make_42 (fun q hq => ?_)
    refine g_dup hC2 dX1_make_45 rfl ?_
    refine g_iload_n hC2 1 dX1_make_46 rfl ?_
    refine g_iload_n hC2 2 dX1_make_47 rfl ?_
    refine g_callI hC2 (c_X0_init l E (addS_pv (by decide))) kb_X1_59 rfl ki_X1_59 ⟨rfl, rfl, Nat.le_of_ble_eq_true rfl, Nat.le_of_ble_eq_true rfl⟩ rfl (Nat.le_of_ble_eq_true rfl) dX1_make_48 _ rfl ?_
    rw [addS_set]
    exact g_aretR hC2 (hR (some (va_rf (some q))) _ ⟨q, hq, rfl, by rw [hck]⟩) rfl dX1_make_51
  by_cases c3 : k = 3
  · refine g_tabIn C 3 (tgt := 52) dX1_make_1 c3 (by decide) (by decide) rfl (by decide) ?_
    have hck : ck k = 6 := by subst c3; decide
    refine g_new C hcs tyX6 tyX6_ok rfl rfl cls_6 nw_X1_60 (Nat.le_of_ble_eq_true rfl) (Nat.le_of_ble_eq_true rfl) dX1_make_52 (fun q hq => ?_)
    refine g_dup hC2 dX1_make_55 rfl ?_
    refine g_iload_n hC2 1 dX1_make_56 rfl ?_
    refine g_iload_n hC2 2 dX1_make_57 rfl ?_
    refine g_callI hC2 (c_X6_init l E (addS_pv (by decide))) kb_X1_62 rfl ki_X1_62 ⟨rfl, rfl, Nat.le_of_ble_eq_true rfl, Nat.le_of_ble_eq_true rfl⟩ rfl (Nat.le_of_ble_eq_true rfl) dX1_make_58 _ rfl ?_
    rw [addS_set]
    exact g_aretR hC2 (hR (some (va_rf (some q))) _ ⟨q, hq, rfl, by rw [hck]⟩) rfl dX1_make_61
  by_cases c4 : k = 4
  · refine g_tabIn C 4 (tgt := 62) dX1_make_1 c4 (by decide) (by decide) rfl (by decide) ?_
    have hck : ck k = 5 := by subst c4; decide
    refine g_new C hcs tyX5 tyX5_ok rfl rfl cls_5 nw_X1_63 (Nat.le_of_ble_eq_true rfl) (Nat.le_of_ble_eq_true rfl) dX1_make_62 (fun q hq => ?_)
    refine g_dup hC2 dX1_make_65 rfl ?_
    refine g_iload_n hC2 1 dX1_make_66 rfl ?_
    refine g_iload_n hC2 2 dX1_make_67 rfl ?_
    refine g_callI hC2 (c_X5_init l E (addS_pv (by decide))) kb_X1_65 rfl ki_X1_65 ⟨rfl, rfl, Nat.le_of_ble_eq_true rfl, Nat.le_of_ble_eq_true rfl⟩ rfl (Nat.le_of_ble_eq_true rfl) dX1_make_68 _ rfl ?_
    rw [addS_set]
    exact g_aretR hC2 (hR (some (va_rf (some q))) _ ⟨q, hq, rfl, by rw [hck]⟩) rfl dX1_make_71
  refine g_tabOut (tgt := 72) C dX1_make_1 (by have q1 := lv_neT c1 (show (1 : Int32).toInt = 1 by decide); have q2 := lv_neT c2 (show (2 : Int32).toInt = 2 by decide); have q3 := lv_neT c3 (show (3 : Int32).toInt = 3 by decide); have q4 := lv_neT c4 (show (4 : Int32).toInt = 4 by decide); omega) (by decide) ?_
  have hck : ck k = 7 := by simp [ck, c1, c2, c3, c4]
  refine g_new C hcs tyX7 tyX7_ok rfl rfl cls_7 nw_X1_9 (Nat.le_of_ble_eq_true rfl) (Nat.le_of_ble_eq_true rfl) dX1_make_72 (fun q hq => ?_)
  refine g_dup hC2 dX1_make_75 rfl ?_
  refine g_iload_n hC2 1 dX1_make_76 rfl ?_
  refine g_iload_n hC2 2 dX1_make_77 rfl ?_
  refine g_callI hC2 (c_X7_init l E (addS_pv (by decide))) kb_X1_66 rfl ki_X1_66 ⟨rfl, rfl, Nat.le_of_ble_eq_true rfl, Nat.le_of_ble_eq_true rfl⟩ rfl (Nat.le_of_ble_eq_true rfl) dX1_make_78 _ rfl ?_
  rw [addS_set]
  exact g_aretR hC2 (hR (some (va_rf (some q))) _ ⟨q, hq, rfl, by rw [hck]⟩) rfl dX1_make_81
/-- City.read's loop: what must hold, whatever cells the machine takes for the streets -/
def wpR : Nat → Int32 → ST → (ST → Prop) → Prop
  | 0, _, _, _ => False
  | n + 1, v, σ, post => (σ.1 4 2 ≤ v → post σ) ∧ (¬ σ.1 4 2 ≤ v → inB v 8 ∧ ∃ k x y, f_X4_kindOf σ v = some k ∧ f_X4_oneEndOf σ v = some x ∧ f_X4_otherEndOf σ v = some y ∧ ∀ q, q ∉ σ.2.2.2.1 → wpR n (v + 1) (setR (addS σ q (ck k) x y) v.toNatClampNeg q) post)
def wpRead (σ : ST) (post : ST → Prop) : Prop := ∃ c t, f_X4_digitAt σ 0 = some c ∧ f_X4_streets (uI σ 4 1 c) = some t ∧ wpR 9 0 (uI (uI σ 4 1 c) 4 2 (if (8 : Int32) < t then 8 else t)) post
abbrev rm_X1_read : Room := { frames := 5, cells := 8, slots := 16, locals := 152 }
set_option maxRecDepth 100000 in
set_option maxHeartbeats 4000000 in
theorem t_X1_read_L (l : Launch) (E : EV) {post : ST → Prop} {Γ0 : CX} (C0 : FX Γ0 l cX1_read 3 RX1 rm_X1_read E) (hR : ∀ σ', post σ' → RT (sc Γ0 8 16) none E none σ') : ∀ (n j : Nat) (σ : ST), wpR n (nI j) σ post → j ≤ 8 → GW (sc Γ0 j (2 * j)) 3 E σ 27 [(0, .ref (E.2.1 4)), (1, .ref (E.2.1 1)), (2, .int (nI j))] [] := by
  intro n
  induction n with
  | zero => intro j σ h; exact h.elim
  | succ n ih =>
    intro j σ h hj
    obtain ⟨h1, h2⟩ := h
    have C : FX (sc Γ0 j (2 * j)) l cX1_read 3 RX1 rm_X1_read E := C0.sc hj (by show 2 * j ≤ 16; omega)
    refine g_iload_n C 2 dX1_read_27 rfl ?_
    refine g_aload_n C 0 dX1_read_28 rfl ?_
    refine fg_X1_36_4 C dX1_read_29 ?_
    refine g_icmp_ge (tgt := 65) C dX1_read_32 (by decide) (fun c1 => ?_) (fun c1 => ?_)
    · refine g_widen (k' := 8) (n' := 16) sc_CS hj (by omega) ?_
      rw [sc_sc]
      exact g_vret (C0.sc (Nat.le_of_ble_eq_true rfl) (Nat.le_of_ble_eq_true rfl)) (hR _ (h1 c1)) dX1_read_65
    · obtain ⟨hi, k, x, y, e1, e2, e3, h3⟩ := h2 c1
      have hj8 : j < 8 := by
        rcases Nat.lt_or_ge j 8 with q | q
        · exact q
        · exact absurd (Or.inr (by rw [nI_clamp (by omega)]; exact q)) hi
      refine g_aload_n C 0 dX1_read_35 rfl ?_
      refine fg_X1_11_4 C dX1_read_36 ?_
      refine g_iload_n C 2 dX1_read_39 rfl ?_
      refine g_aload_n C 1 dX1_read_40 rfl ?_
      refine g_iload_n C 2 dX1_read_41 rfl ?_
      refine g_callV C 1 (c_X4_kindOf l E e1) cls_4 k_X1_39 ⟨rfl, rfl, Nat.le_of_ble_eq_true rfl, Nat.le_of_ble_eq_true rfl⟩ (by decide) rfl rfl (Nat.le_of_ble_eq_true rfl) dX1_read_42 _ rfl ?_
      refine g_aload_n C 1 dX1_read_45 rfl ?_
      refine g_iload_n C 2 dX1_read_46 rfl ?_
      refine g_callV C 1 (c_X4_oneEndOf l E e2) cls_4 k_X1_42 ⟨rfl, rfl, Nat.le_of_ble_eq_true rfl, Nat.le_of_ble_eq_true rfl⟩ (by decide) rfl rfl (Nat.le_of_ble_eq_true rfl) dX1_read_47 _ rfl ?_
      refine g_aload_n C 1 dX1_read_50 rfl ?_
      refine g_iload_n C 2 dX1_read_51 rfl ?_
      refine g_callV C 1 (c_X4_otherEndOf l E e3) cls_4 k_X1_45 ⟨rfl, rfl, Nat.le_of_ble_eq_true rfl, Nat.le_of_ble_eq_true rfl⟩ (by decide) rfl rfl (Nat.le_of_ble_eq_true rfl) dX1_read_52 _ rfl ?_
      refine g_callSA C sc_CS (c_X1_make l E) k_X1_48 ⟨rfl, rfl, Nat.le_of_ble_eq_true rfl, Nat.le_of_ble_eq_true rfl⟩ (by show j + 1 ≤ 8; omega) (by show 2 * j + 2 ≤ 16; omega) rfl (Nat.le_of_ble_eq_true rfl) dX1_read_55 _ rfl (fun r σ' hp => ?_)
      obtain ⟨q, hq, rfl, rfl⟩ := hp
      rw [sc_sc]
      have C2 : FX (sc Γ0 (j + 1) (2 * j + 2)) l cX1_read 3 RX1 rm_X1_read E := C0.sc hj8 (by show 2 * j + 2 ≤ 16; omega)
      refine g_aast C2 dX1_read_58 hi (addS_pv (ck_pv k)) ?_
      refine g_iinc C2 2 dX1_read_59 rfl (show nI j + Int32.ofInt 1 = nI (j + 1) from nI_1 j) (by decide) [(2, .int (nI (j + 1))), (0, .ref (E.2.1 4)), (1, .ref (E.2.1 1))] rfl ?_
      refine g_goto (tgt := 27) C2 dX1_read_62 (by decide) ?_
      have h4 := h3 q hq
      rw [nI_1] at h4
      exact g_lv [(0, .ref (E.2.1 4)), (1, .ref (E.2.1 1)), (2, .int (nI (j + 1)))] [1, 2, 0] rfl (ih (j + 1) _ h4 hj8)
set_option maxRecDepth 100000 in
set_option maxHeartbeats 4000000 in
theorem c_X1_read (l : Launch) (E : EV) {σ : ST} {post : ST → Prop} (h : wpRead σ post) : CTA l E yX1_read cX1_read 3 none rm_X1_read [.ref (E.2.1 4), .ref (E.2.1 1)] σ 8 16 (fun r σ' => r = none ∧ post σ') := by
  obtain ⟨c, t, e1, e2, h⟩ := h
  refine CTA.of RX1 rfl (by decide) (Nat.le_of_ble_eq_true rfl) (fun Γ C hcs hR => ?_)
  show GW Γ 3 E σ 0 [(0, .ref (E.2.1 4)), (1, .ref (E.2.1 1))] []
  refine g_aload_n C 0 dX1_read_0 rfl ?_
  refine g_aload_n C 1 dX1_read_1 rfl ?_
  refine g_iconst C dX1_read_2 (v := 0) (by decide) ?_
  refine g_callV C 1 (c_X4_digitAt l E e1) cls_4 k_X1_17 ⟨rfl, rfl, Nat.le_of_ble_eq_true rfl, Nat.le_of_ble_eq_true rfl⟩ (by decide) rfl rfl (Nat.le_of_ble_eq_true rfl) dX1_read_3 _ rfl ?_
  refine fp_X1_23_4 C dX1_read_6 rfl ?_
  refine g_aload_n C 0 dX1_read_9 rfl ?_
  refine g_aload_n C 1 dX1_read_10 rfl ?_
  refine g_callV C 1 (c_X4_streets l E e2) cls_4 k_X1_27 ⟨rfl, rfl, Nat.le_of_ble_eq_true rfl, Nat.le_of_ble_eq_true rfl⟩ (by decide) rfl rfl (Nat.le_of_ble_eq_true rfl) dX1_read_11 _ rfl ?_
  refine g_aload_n C 0 dX1_read_14 rfl ?_
  refine fg_X1_11_4 C dX1_read_15 ?_
  refine g_alen C 5 2 dX1_read_18 (by decide) rfl rfl (v := 8) rfl ?_
  refine g_mmin C dX1_read_19 mk_X1_30 (Nat.le_of_ble_eq_true rfl) (Nat.le_of_ble_eq_true rfl) ?_
  refine fp_X1_36_4 C dX1_read_22 rfl ?_
  refine g_iconst C dX1_read_25 (v := 0) (by decide) ?_
  refine g_istore_n C dX1_read_26 (by decide) [(2, .int 0), (0, .ref (E.2.1 4)), (1, .ref (E.2.1 1))] rfl ?_
  have K := t_X1_read_L l E C (fun σ' hp => hR none σ' ⟨rfl, hp⟩) 9 0 _ h (by decide)
  rw [sc_self hcs] at K
  exact g_lv [(0, .ref (E.2.1 4)), (1, .ref (E.2.1 1)), (2, .int 0)] [1, 2, 0] rfl K
abbrev rm_X10_city : Room := { frames := 7, cells := 8, slots := 16, locals := 174 }
def wpCity (σ : ST) (post : Int32 → ST → Prop) : Prop := ∃ b, f_X4_isCity σ = some b ∧ (b = 0 → post (-103) σ) ∧ (¬ b = 0 → wpRead σ (fun σ1 => ∃ σ2, f_X3_enter (σ1.1 4 2) σ1 = some σ2 ∧ post ((uI (uI σ2 1 1 0) 0 5 ((uI σ2 1 1 0).1 0 5 + 1)).1 4 2) (uI (uI σ2 1 1 0) 0 5 ((uI σ2 1 1 0).1 0 5 + 1))))
set_option maxRecDepth 100000 in
set_option maxHeartbeats 4000000 in
theorem c_X10_city (l : Launch) (E : EV) {σ : ST} {post : Int32 → ST → Prop} (h : wpCity σ post) : CTA l E yX10_city cX10_city 1 (some .int) rm_X10_city [.ref (E.2.1 0)] σ 8 16 (fun r σ' => ∃ v, r = some (.int v) ∧ post v σ') := by
  obtain ⟨b, e1, h1, h2⟩ := h
  refine CTA.of RX10 rfl (by decide) (Nat.le_of_ble_eq_true rfl) (fun Γ C hcs hR => ?_)
  show GW Γ 1 E σ 0 [(0, .ref (E.2.1 0))] []
  have C2 := C.sc (k := 8) (n := 16) (Nat.le_of_ble_eq_true rfl) (Nat.le_of_ble_eq_true rfl)
  refine g_aload_n C 0 dX10_city_0 rfl ?_
  refine fg_X10_10_0 C dX10_city_1 ?_
  refine g_callV C 1 (c_X4_isCity l E e1) cls_4 k_X10_51 ⟨rfl, rfl, Nat.le_of_ble_eq_true rfl, Nat.le_of_ble_eq_true rfl⟩ (by decide) rfl rfl (Nat.le_of_ble_eq_true rfl) dX10_city_4 _ rfl ?_
  refine g_if_ne (y := 0) (tgt := 13) C dX10_city_7 (by decide) (fun c1 => ?_) (fun c1 => ?_)
  · have h := h2 c1
    refine g_aload_n C 0 dX10_city_13 rfl ?_
    refine fg_X10_27_0 C dX10_city_14 ?_
    refine g_aload_n C 0 dX10_city_17 rfl ?_
    refine fg_X10_10_0 C dX10_city_18 ?_
    refine g_callVA C 4 hcs (c_X1_read l E h) cls_1 k_X10_55 ⟨rfl, rfl, Nat.le_of_ble_eq_true rfl, Nat.le_of_ble_eq_true rfl⟩ (Nat.le_of_ble_eq_true rfl) (Nat.le_of_ble_eq_true rfl) (by decide) rfl rfl (Nat.le_of_ble_eq_true rfl) dX10_city_21 _ rfl (fun r σ1 hp => ?_)
    obtain ⟨rfl, σ2, e2, hp⟩ := hp
    refine g_aload_n C2 0 dX10_city_24 rfl ?_
    refine fg_X10_32_0 C2 dX10_city_25 ?_
    refine g_aload_n C2 0 dX10_city_28 rfl ?_
    refine fg_X10_10_0 C2 dX10_city_29 ?_
    refine g_aload_n C2 0 dX10_city_32 rfl ?_
    refine fg_X10_27_0 C2 dX10_city_33 ?_
    refine fg_X10_61_4 C2 dX10_city_36 ?_
    refine g_callV C2 6 (c_X3_enter l E e2) cls_3 k_X10_64 ⟨rfl, rfl, Nat.le_of_ble_eq_true rfl, Nat.le_of_ble_eq_true rfl⟩ (by decide) rfl rfl (Nat.le_of_ble_eq_true rfl) dX10_city_39 _ rfl ?_
    refine g_aload_n C2 0 dX10_city_42 rfl ?_
    refine fg_X10_10_0 C2 dX10_city_43 ?_
    refine g_iconst C2 dX10_city_46 (v := 0) (by decide) ?_
    refine fp_X10_39_1 C2 dX10_city_47 rfl ?_
    refine g_aload_n C2 0 dX10_city_50 rfl ?_
    refine g_dup C2 dX10_city_51 rfl ?_
    refine fg_X10_68_0 C2 dX10_city_52 ?_
    refine g_iconst C2 dX10_city_55 (v := 1) (by decide) ?_
    refine g_iadd C2 dX10_city_56 ?_
    refine fp_X10_68_0 C2 dX10_city_57 rfl ?_
    refine g_aload_n C2 0 dX10_city_60 rfl ?_
    refine fg_X10_27_0 C2 dX10_city_61 ?_
    refine fg_X10_61_4 C2 dX10_city_64 ?_
    exact g_iret C2 (hR _ _ ⟨_, rfl, hp⟩) dX10_city_67
  · refine g_bipush C dX10_city_10 (v := (-103)) (by decide) ?_
    refine g_widen (k' := 8) (n' := 16) hcs (by decide) (by decide) ?_
    exact g_iret C2 (hR _ _ ⟨_, rfl, h1 c1⟩) dX10_city_12
