noncomputable def f_J0_isLatin1_aae02 : Option (Int32) := (if ((1 : Int32)) = 0 then some 0 else (if ((0 : Int32)) = 0 then some 1 else some 0))
noncomputable def f_J0_coder_7d493 : Option (Int32) := (if ((1 : Int32)) = 0 then some 1 else some ((0 : Int32)))
noncomputable def f_J0_length_8abf5 : Option (Int32) := (f_J0_coder_7d493).bind fun r2 => some (j_shr 5 r2)
noncomputable def f_J1_canEncode_9a6ad (p0 : Int32) : Option (Int32) := (if p0 < 0 then some 0 else (if 255 < p0 then some 0 else some 1))
noncomputable def f_J1_indexOfChar_4cfef_L7 : Nat → Int32 → Int32 → Int32 → Option (Int32)
  | 0, _, _, _ => none
  | n + 1, v3, v4, v5 => (if v3 ≤ v5 then some (-1) else (if inB v5 5 then (if (bK v5.toNatClampNeg) = v4 then some v5 else (some (v5 + 1)).bind fun x5 => ((f_J1_indexOfChar_4cfef_L7 n)) v3 v4 x5) else none))
noncomputable def f_J1_indexOfChar_4cfef (p1 : Int32) (p2 : Int32) (p3 : Int32) : Option (Int32) := (some (p1.toInt8.toInt32)).bind fun x1 => f_J1_indexOfChar_4cfef_L7 fuel p3 x1 p2
noncomputable def f_J1_indexOf_4cfef (p1 : Int32) (p2 : Int32) (p3 : Int32) : Option (Int32) := (f_J1_canEncode_9a6ad p1).bind fun r2 => (if r2 = 0 then some (-1) else (some (if p2 < 0 then 0 else p2)).bind fun x4 => (some (if 5 < p3 then 5 else p3)).bind fun x5 => (if x4 < x5 then (f_J1_indexOfChar_4cfef p1 x4 x5).bind fun r8 => some r8 else some (-1)))
noncomputable def f_J0_indexOf_7cf53 (p0 : Int32) (p1 : Int32) : Option (Int32) := (f_J0_isLatin1_aae02).bind fun r2 => (if r2 = 0 then (f_J0_length_8abf5).bind fun r5 => none else (f_J0_length_8abf5).bind fun r7 => (f_J1_indexOf_4cfef p0 p1 r7).bind fun r9 => some r9)
noncomputable def f_J0_indexOf_0f7a4 (p0 : Int32) : Option (Int32) := (f_J0_indexOf_7cf53 p0 0).bind fun r2 => some r2
noncomputable def f_X8_note (p0 : Int64) (p1 : Int32) : Option (Int32) := (if p1 < 0 then some (-1) else (if p1 < 8 then some ((((j_lushr p0 (4 * p1)) &&& 15).toInt32) - 1) else some (-1)))
noncomputable def f_X8_with (p0 : Int64) (p1 : Int32) (p2 : Int32) : Option (Int64) := (some (4 * p1)).bind fun x1 => some ((p0 &&& ((j_lshl 15 x1) ^^^ (-1))) ||| (j_lshl ((p2.toInt64) + 1) x1))
noncomputable def f_X8_length_L2 : Nat → Int64 → Int32 → Option (Int32)
  | 0, _, _ => none
  | n + 1, v0, v2 => (if 8 ≤ v2 then some v2 else (f_X8_note v0 v2).bind fun r3 => (if r3 = (-1) then some v2 else (some (v2 + 1)).bind fun x5 => ((f_X8_length_L2 n)) v0 x5))
noncomputable def f_X8_length (p0 : Int64) : Option (Int32) := f_X8_length_L2 fuel p0 0
noncomputable def f_X8_above (p0 : Int32) (p1 : Int32) : Option (Int32) := some (j_rem ((p0 - p1) + 12) 12)
noncomputable def f_X8_tritones_L4 : Nat → Int64 → Int32 → Int32 → Option (Int32)
  | 0, _, _, _ => none
  | n + 1, v0, v2, v3 => (if 8 ≤ v3 then some v2 else (f_X8_note v0 v3).bind fun r3 => (if r3 = (-1) then some v2 else (f_X8_note v0 v3).bind fun r6 => (f_X8_note v0 (v3 - 1)).bind fun r8 => (some ((if (if 0 ≤ (r6 - r8) then (r6 - r8) else 0 - (r6 - r8)) = 6 then (v2 + 1) else v2))).bind fun x9 => (some (v3 + 1)).bind fun x11 => ((f_X8_tritones_L4 n)) v0 x9 x11))
noncomputable def f_X8_tritones (p0 : Int64) : Option (Int32) := f_X8_tritones_L4 fuel p0 0 1
noncomputable def f_X8_bits_L10 : Nat → Int64 → Int32 → Int32 → Int32 → Option (Int32)
  | 0, _, _, _, _ => none
  | n + 1, v0, v2, v3, v4 => (if v3 ≤ v4 then some v2 else (f_X8_note v0 v4).bind fun r5 => (some (v2 ||| (j_shl 1 r5))).bind fun x6 => (some (v4 + 1)).bind fun x7 => ((f_X8_bits_L10 n)) v0 x6 v3 x7)
noncomputable def f_X8_bits (p0 : Int64) : Option (Int32) := (f_X8_length p0).bind fun r2 => f_X8_bits_L10 fuel p0 0 r2 0
noncomputable def f_X8_inKey_L34 : Nat → Int64 → Int32 → Int32 → Int32 → Int32 → Int32 → Option (Int32)
  | 0, _, _, _, _, _, _ => none
  | n + 1, v0, v3, v4, v5, v6, v7 => (if v5 ≤ v7 then some v6 else (f_X8_note v0 v7).bind fun r8 => (f_X8_above r8 v4).bind fun r10 => (some (v6 + ((j_shr v3 r10) &&& 1))).bind fun x11 => (some (v7 + 1)).bind fun x12 => ((f_X8_inKey_L34 n)) v0 v3 v4 v5 x11 x12)
noncomputable def f_X8_inKey_B15 (v0 : Int64) (v2 : Int32) (s0 : Int32) : Option (Int32) := (some (j_rem v2 12)).bind fun x3 => (f_X8_length v0).bind fun r5 => f_X8_inKey_L34 fuel v0 s0 x3 r5 0 0
noncomputable def f_X8_inKey (p0 : Int64) (p1 : Int32) : Option (Int32) := (some ((if 12 ≤ p1 then 1453 else 2741))).bind fun x1 => f_X8_inKey_B15 p0 p1 x1
noncomputable def f_X8_key_L11 : Nat → Int64 → Int32 → Int32 → Int32 → Option (Int32)
  | 0, _, _, _, _ => none
  | n + 1, v0, v2, v3, v4 => (if 24 ≤ v4 then some v2 else (f_X8_inKey v0 v4).bind fun r5 => (if r5 ≤ v3 then (some (v4 + 1)).bind fun x7 => ((f_X8_key_L11 n)) v0 v2 v3 x7 else (some (v4 + 1)).bind fun x8 => ((f_X8_key_L11 n)) v0 v4 r5 x8))
noncomputable def f_X8_key (p0 : Int64) : Option (Int32) := (f_X8_inKey p0 0).bind fun r2 => f_X8_key_L11 fuel p0 0 r2 1
noncomputable def f_X8_unlike_L6 : Nat → Int64 → Int64 → Int32 → Int32 → Option (Int32)
  | 0, _, _, _, _ => none
  | n + 1, v0, v2, v4, v5 => (if 8 ≤ v5 then some v4 else (f_X8_note v0 v5).bind fun r3 => (f_X8_note v2 v5).bind fun r5 => (some ((if r3 = r5 then v4 else (v4 + 1)))).bind fun x6 => (some (v5 + 1)).bind fun x8 => ((f_X8_unlike_L6 n)) v0 v2 x6 x8)
noncomputable def f_X8_unlike (p0 : Int64) (p1 : Int64) : Option (Int32) := f_X8_unlike_L6 fuel p0 p1 0 0
noncomputable def f_X7_kind : Option (Int32) := some 0
noncomputable def f_X0_kind : Option (Int32) := some 2
noncomputable def f_X2_kind : Option (Int32) := some 1
noncomputable def f_X5_kind : Option (Int32) := some 4
noncomputable def f_X6_kind : Option (Int32) := some 3
noncomputable def f_X7_heard (p0 : Int64) (p1 : Int32) (p2 : Int32) : Option (Int32) := (f_X8_note p0 p1).bind fun r2 => some (j_rem (r2 + p2) 12)
noncomputable def f_X2_heard_B41 (v5 : Int32) (s0 : Int32) : Option (Int32) := (if s0 = 0 then some v5 else some (j_rem ((v5 + 12) - 1) 12))
noncomputable def f_X2_heard (p0 : Int64) (p1 : Int32) (p2 : Int32) : Option (Int32) := (f_X8_note p0 p1).bind fun r2 => (f_X8_above r2 p2).bind fun r4 => (some ((if r4 = 4 then 1 else (if r4 = 9 then 1 else (if r4 = 11 then 1 else 0))))).bind fun x5 => f_X2_heard_B41 r2 x5
noncomputable def f_X0_heard (p0 : Int64) (p1 : Int32) (p2 : Int32) : Option (Int32) := (f_X8_note p0 p1).bind fun r2 => (f_X8_above p2 r2).bind fun r4 => some r4
noncomputable def f_X6_heard (p0 : Int64) (p1 : Int32) (p2 : Int32) : Option (Int32) := (f_X8_note p0 0).bind fun r2 => some r2
noncomputable def f_X5_heard_B26 (v4 : Int32) (v5 : Int32) (s0 : Int32) : Option (Int32) := (if s0 = 0 then some v5 else (f_X8_above v5 v4).bind fun r9 => (if r9 = 3 then some (j_rem (v4 + 4) 12) else some v5))
noncomputable def f_X5_heard (p0 : Int64) (p1 : Int32) (p2 : Int32) : Option (Int32) := (f_X2_heard p0 p1 p2).bind fun r2 => (f_X8_note p0 (p1 + 1)).bind fun r4 => (some ((if r4 = (-1) then 1 else 0))).bind fun x5 => f_X5_heard_B26 p2 r2 x5
noncomputable def fd_heard (k : Nat) (p0 : Int64) (p1 p2 : Int32) : Option Int32 := match k with
  | 0 => f_X0_heard p0 p1 p2
  | 2 => f_X2_heard p0 p1 p2
  | 5 => f_X5_heard p0 p1 p2
  | 6 => f_X6_heard p0 p1 p2
  | _ => f_X7_heard p0 p1 p2
noncomputable def f_X7_open (p0 : Int64) (p1 : Int32) : Option (Int32) := some 1
noncomputable def f_X0_open (p0 : Int64) (p1 : Int32) : Option (Int32) := (if p1 = 0 then some 1 else (f_X8_tritones p0).bind fun r3 => (if r3 = 0 then some 1 else some 0))
noncomputable def fd_open (k : Nat) (p0 : Int64) (p1 : Int32) : Option Int32 := match k with
  | 0 => f_X0_open p0 p1
  | _ => f_X7_open p0 p1
noncomputable def fd_kind (k : Nat) : Option Int32 := match k with
  | 0 => f_X0_kind
  | 2 => f_X2_kind
  | 5 => f_X5_kind
  | 6 => f_X6_kind
  | _ => f_X7_kind
noncomputable def f_X7_endsAt (a0 : Nat) (σ : ST) (p0 : Int32) : Option (Int32) := (if p0 = (σ.2.2.2.2.2.1 a0) then some 1 else (if p0 = (σ.2.2.2.2.2.2 a0) then some 1 else some 0))
noncomputable def f_X7_across (a0 : Nat) (σ : ST) (p0 : Int32) : Option (Int32) := (if p0 = (σ.2.2.2.2.2.1 a0) then some (σ.2.2.2.2.2.2 a0) else some (σ.2.2.2.2.2.1 a0))
noncomputable def f_X7_carry_L6 (a0 : Nat) (σ : ST) : Nat → Int64 → Int32 → Int64 → Int32 → Option (Int64)
  | 0, _, _, _, _ => none
  | n + 1, v1, v3, v4, v6 => (if 8 ≤ v6 then some v4 else (f_X8_note v1 v6).bind fun r3 => (if r3 = (-1) then some v4 else (fd_heard (σ.2.2.2.2.1 a0) v1 v6 v3).bind fun r6 => (f_X8_with v4 v6 r6).bind fun r8 => (some (v6 + 1)).bind fun x9 => ((f_X7_carry_L6 a0 σ n)) v1 v3 r8 x9))
noncomputable def f_X7_carry (a0 : Nat) (σ : ST) (p0 : Int64) (p1 : Int32) : Option (Int64) := f_X7_carry_L6 a0 σ fuel p0 p1 0 0
noncomputable def f_X7_makes_B46 (a0 : Nat) (σ : ST) (v4 : Int64) (v6 : Int32) : Option (Int32) := (f_X8_note v4 v6).bind fun r3 => (if r3 = (-1) then some 1 else some 0)
noncomputable def f_X7_makes_L3 (a0 : Nat) (σ : ST) : Nat → Int64 → Int32 → Int64 → Int32 → Option (Int32)
  | 0, _, _, _, _ => none
  | n + 1, v1, v3, v4, v6 => (if 8 ≤ v6 then f_X7_makes_B46 a0 σ v4 v6 else (f_X8_note v1 v6).bind fun r6 => (if r6 = (-1) then f_X7_makes_B46 a0 σ v4 v6 else (fd_heard (σ.2.2.2.2.1 a0) v1 v6 v3).bind fun r9 => (f_X8_note v4 v6).bind fun r11 => (if r9 = r11 then (some (v6 + 1)).bind fun x13 => ((f_X7_makes_L3 a0 σ n)) v1 v3 v4 x13 else some 0)))
noncomputable def f_X7_makes (a0 : Nat) (σ : ST) (p0 : Int64) (p1 : Int32) (p2 : Int64) : Option (Int32) := f_X7_makes_L3 a0 σ fuel p0 p1 p2 0
noncomputable def f_X7_alone (a0 : Nat) (σ : ST) (p0 : Int32) (p1 : Int32) : Option (Int32) := (f_X8_with 0 0 p0).bind fun r2 => (fd_heard (σ.2.2.2.2.1 a0) r2 0 p1).bind fun r4 => some r4
noncomputable def f_X10_isNote (p0 : Int32) : Option (Int32) := (if p0 < 0 then some 0 else (if 12 ≤ p0 then some 0 else some 1))
noncomputable def f_X4_add (p0 : Int32) (σ : ST) : Option (ST) := (if (σ.1 1 1) < 0 then some σ else (if 44 ≤ (σ.1 1 1) then some σ else (if inB (σ.1 1 1) 44 then (some (uI σ 2 ((σ.1 1 1).toNatClampNeg) p0)).bind fun σ3 => (some (uI σ3 1 1 ((σ3.1 1 1) + 1))).bind fun σ5 => some σ5 else none)))
noncomputable def f_X4_at (σ : ST) (p0 : Int32) : Option (Int32) := (if p0 < 0 then some 0 else (if (σ.1 1 1) ≤ p0 then some 0 else (if 44 ≤ p0 then some 0 else (if inB p0 44 then some (σ.1 2 p0.toNatClampNeg) else none))))
noncomputable def f_X4_noteAt (σ : ST) (p0 : Int32) : Option (Int32) := (f_X4_at σ p0).bind fun r2 => (some (r2 - 97)).bind fun x3 => (f_X10_isNote x3).bind fun r5 => (if r5 = 0 then some (-1) else some x3)
noncomputable def f_X4_digitAt (σ : ST) (p0 : Int32) : Option (Int32) := (f_X4_at σ p0).bind fun r2 => some (r2 - 48)
noncomputable def f_X4_kindOf (σ : ST) (p0 : Int32) : Option (Int32) := (f_X4_at σ (2 + (p0 * 5))).bind fun r2 => (f_J0_indexOf_0f7a4 (j_i2c r2)).bind fun r4 => some r4
noncomputable def f_X4_oneEndOf (σ : ST) (p0 : Int32) : Option (Int32) := (f_X4_digitAt σ ((2 + (p0 * 5)) + 1)).bind fun r2 => some r2
noncomputable def f_X4_otherEndOf (σ : ST) (p0 : Int32) : Option (Int32) := (f_X4_digitAt σ ((2 + (p0 * 5)) + 2)).bind fun r2 => some r2
noncomputable def f_X4_tonicOf (σ : ST) (p0 : Int32) : Option (Int32) := (f_X4_noteAt σ ((2 + (p0 * 5)) + 3)).bind fun r2 => some r2
noncomputable def f_X4_asTune_L23 (σ : ST) : Nat → Int64 → Int32 → Option (Int64)
  | 0, _, _ => none
  | n + 1, v1, v3 => (if (σ.1 1 1) ≤ v3 then some v1 else (f_X4_noteAt σ v3).bind fun r5 => (if r5 = (-1) then some 0 else (f_X8_with v1 v3 r5).bind fun r8 => (some (v3 + 1)).bind fun x9 => ((f_X4_asTune_L23 σ n)) r8 x9))
noncomputable def f_X4_asTune (σ : ST) : Option (Int64) := (if (σ.1 1 1) < 1 then some 0 else (if (σ.1 1 1) ≤ 8 then f_X4_asTune_L23 σ fuel 0 0 else some 0))
noncomputable def f_X4_streets (σ : ST) : Option (Int32) := some ((((σ.1 1 1) + 1) - 2) / 5)
noncomputable def f_X4_isCorner (σ : ST) (p0 : Int32) : Option (Int32) := (if p0 < 0 then some 0 else (f_X4_digitAt σ 0).bind fun r3 => (if r3 ≤ p0 then some 0 else some 1))
noncomputable def f_X4_belongs (σ : ST) (p0 : Int32) : Option (Int32) := (if p0 = 0 then (f_X4_digitAt σ 0).bind fun r37 => (if r37 < 2 then some 0 else (f_X4_digitAt σ 0).bind fun r40 => (if 5 < r40 then some 0 else some 1)) else (if p0 = 1 then (f_X4_at σ 1).bind fun r34 => (if r34 = 59 then some 1 else some 0) else (if p0 < 41 then (if (j_rem (p0 - 2) 5) = 0 then (f_X4_at σ p0).bind fun r6 => (f_J0_indexOf_0f7a4 (j_i2c r6)).bind fun r8 => (if r8 < 0 then some 0 else some 1) else (if (j_rem (p0 - 2) 5) = 1 then (f_X4_digitAt σ p0).bind fun r12 => (f_X4_isCorner σ r12).bind fun r14 => (if r14 = 0 ∨ r14 = 1 then some r14 else none) else (if (j_rem (p0 - 2) 5) = 2 then (f_X4_digitAt σ p0).bind fun r17 => (f_X4_isCorner σ r17).bind fun r19 => (if r19 = 0 then some 0 else (f_X4_digitAt σ p0).bind fun r22 => (f_X4_digitAt σ (p0 - 1)).bind fun r24 => (if r22 = r24 then some 0 else some 1)) else (if (j_rem (p0 - 2) 5) = 3 then (f_X4_noteAt σ p0).bind fun r28 => (if r28 = (-1) then some 0 else some 1) else (f_X4_at σ p0).bind fun r31 => (if r31 = 44 then some 1 else some 0))))) else some 0)))
noncomputable def f_X4_firstFault_L2 (σ : ST) : Nat → Int32 → Option (Int32)
  | 0, _ => none
  | n + 1, v1 => (if (σ.1 1 1) ≤ v1 then some (σ.1 1 1) else (f_X4_belongs σ v1).bind fun r3 => (if r3 = 0 then some v1 else (some (v1 + 1)).bind fun x5 => ((f_X4_firstFault_L2 σ n)) x5))
noncomputable def f_X4_firstFault (σ : ST) : Option (Int32) := f_X4_firstFault_L2 σ fuel 0
noncomputable def f_X4_isCity_B18 (σ : ST) (s0 : Int32) : Option (Int32) := (if (σ.1 1 1) < 11 then some 0 else (if s0 = 0 then some 0 else (f_X4_firstFault σ).bind fun r6 => (if r6 = (σ.1 1 1) then some 1 else some 0)))
noncomputable def f_X4_isCity (σ : ST) : Option (Int32) := (some ((if (j_rem (((σ.1 1 1) + 1) - 2) 5) = 0 then 1 else 0))).bind fun x1 => f_X4_isCity_B18 σ x1
noncomputable def f_X1_at (σ : ST) (p0 : Int32) : Option (Option Nat) := (if p0 < 0 then some none else (if (σ.1 4 2) ≤ p0 then some none else (if 8 ≤ p0 then some none else (if inB p0 8 then some ((σ.2.2.1 p0.toNatClampNeg)) else none))))
noncomputable def f_X1_from (σ : ST) (p0 : Int32) (p1 : Int32) : Option (Option Nat) := (f_X1_at σ p1).bind fun r2 => Option.elim r2 (some none) (fun a3 => (if pv σ a3 then (f_X7_endsAt a3 σ p0).bind fun r5 => (if r5 = 0 then some none else some ((some a3))) else none))
noncomputable def f_X1_countAt_L4 (σ : ST) : Nat → Int32 → Int32 → Int32 → Option (Int32)
  | 0, _, _, _ => none
  | n + 1, v1, v2, v3 => (if (σ.1 4 2) ≤ v3 then some v2 else (f_X1_from σ v1 v3).bind fun r3 => (Option.elim r3 (some v2) (fun a5 => (some (v2 + 1)).bind fun x6 => some x6)).bind fun x4 => (some (v3 + 1)).bind fun x7 => ((f_X1_countAt_L4 σ n)) v1 x4 x7)
noncomputable def f_X1_countAt (σ : ST) (p0 : Int32) : Option (Int32) := f_X1_countAt_L4 σ fuel p0 0 0
noncomputable def f_X1_numberAt_L5 (σ : ST) : Nat → Int32 → Int32 → Int32 → Int32 → Option (Int32)
  | 0, _, _, _, _ => none
  | n + 1, v1, v2, v3, v4 => (if (σ.1 4 2) ≤ v4 then some (-1) else (f_X1_from σ v1 v4).bind fun r3 => Option.elim r3 ((some (v4 + 1)).bind fun x5 => ((f_X1_numberAt_L5 σ n)) v1 v2 v3 x5) (fun a4 => (if v3 = v2 then some v4 else (some (v3 + 1)).bind fun x7 => (some (v4 + 1)).bind fun x8 => ((f_X1_numberAt_L5 σ n)) v1 v2 x7 x8)))
noncomputable def f_X1_numberAt (σ : ST) (p0 : Int32) (p1 : Int32) : Option (Int32) := f_X1_numberAt_L5 σ fuel p0 p1 0 0
noncomputable def f_X3_setTonic (p0 : Int32) (p1 : Int32) (σ : ST) : Option (ST) := (if p0 < 0 then some σ else (if 8 ≤ p0 then some σ else (if inB p0 8 then (some (uI σ 7 (p0.toNatClampNeg) p1)).bind fun σ3 => some σ3 else none)))
noncomputable def f_X3_enter_B47 (σ : ST) : Option (ST) := (some (uI σ 6 7 0)).bind fun σ3 => (some (uI σ3 6 8 0)).bind fun σ4 => (some (uI σ4 6 9 0)).bind fun σ5 => (some (uI σ5 6 10 0)).bind fun σ6 => some σ6
noncomputable def f_X3_enter_L25 : Nat → Int32 → ST → Option (ST)
  | 0, _, _ => none
  | n + 1, v3, σ => (if 8 ≤ v3 then f_X3_enter_B47 σ else (if inB v3 8 then (some (uI σ 8 (v3.toNatClampNeg) 0)).bind fun σ7 => (some (v3 + 1)).bind fun x9 => ((f_X3_enter_L25 n)) x9 σ7 else none))
noncomputable def f_X3_enter_B23 (σ : ST) : Option (ST) := f_X3_enter_L25 fuel 0 σ
noncomputable def f_X3_enter_L2 : Nat → Int32 → Int32 → ST → Option (ST)
  | 0, _, _, _ => none
  | n + 1, v2, v3, σ => (if v2 ≤ v3 then f_X3_enter_B23 σ else (f_X4_tonicOf σ v3).bind fun r11 => (f_X3_setTonic v3 r11 σ).bind fun σ13 => (some (v3 + 1)).bind fun x14 => ((f_X3_enter_L2 n)) v2 x14 σ13)
noncomputable def f_X3_enter (p1 : Int32) (σ : ST) : Option (ST) := f_X3_enter_L2 fuel p1 0 σ
noncomputable def f_X3_copy (σ : ST) : Option (ST) := (some (uA σ 7 (va_cpy (σ.1 15) (σ.1 7) 0 0 8))).bind fun σ1 => (some (uA σ1 8 (va_cpy (σ1.1 16) (σ1.1 8) 0 0 8))).bind fun σ2 => (some (uA σ2 9 (va_cpy (σ2.1 17) (σ2.1 9) 0 0 6))).bind fun σ3 => (some (uA σ3 10 (va_cpy (σ3.1 18) (σ3.1 10) 0 0 6))).bind fun σ4 => (some (uA σ4 11 (va_cpy (σ4.1 19) (σ4.1 11) 0 0 6))).bind fun σ5 => (some (uL σ5 6 5 (σ5.2.1 14 5))).bind fun σ6 => (some (uL σ6 6 6 (σ6.2.1 14 6))).bind fun σ7 => (some (uI σ7 6 7 (σ7.1 14 7))).bind fun σ8 => (if (σ8.1 14 8) = 0 ∨ (σ8.1 14 8) = 1 then (some (uI σ8 6 8 (σ8.1 14 8))).bind fun σ9 => (some (uI σ9 6 9 (σ9.1 14 9))).bind fun σ11 => (some (uI σ11 6 10 (σ11.1 14 10))).bind fun σ12 => some σ12 else none)
noncomputable def f_X3_copyI (σ : ST) : Option (ST) := (some (uA σ 15 (va_cpy (σ.1 7) (σ.1 15) 0 0 8))).bind fun σ1 => (some (uA σ1 16 (va_cpy (σ1.1 8) (σ1.1 16) 0 0 8))).bind fun σ2 => (some (uA σ2 17 (va_cpy (σ2.1 9) (σ2.1 17) 0 0 6))).bind fun σ3 => (some (uA σ3 18 (va_cpy (σ3.1 10) (σ3.1 18) 0 0 6))).bind fun σ4 => (some (uA σ4 19 (va_cpy (σ4.1 11) (σ4.1 19) 0 0 6))).bind fun σ5 => (some (uL σ5 14 5 (σ5.2.1 6 5))).bind fun σ6 => (some (uL σ6 14 6 (σ6.2.1 6 6))).bind fun σ7 => (some (uI σ7 14 7 (σ7.1 6 7))).bind fun σ8 => (if (σ8.1 6 8) = 0 ∨ (σ8.1 6 8) = 1 then (some (uI σ8 14 8 (σ8.1 6 8))).bind fun σ9 => (some (uI σ9 14 9 (σ9.1 6 9))).bind fun σ11 => (some (uI σ11 14 10 (σ11.1 6 10))).bind fun σ12 => some σ12 else none)
noncomputable def f_X3_tuneOf (σ : ST) (p0 : Int32) : Option (Int64) := (if p0 = 0 then some (σ.2.1 6 5) else (if p0 = 1 then some (σ.2.1 6 6) else some 0))
noncomputable def f_X3_setTune (p0 : Int32) (p1 : Int64) (σ : ST) : Option (ST) := (if p0 = 0 then (some (uL σ 6 5 p1)).bind fun σ3 => some σ3 else (some (uL σ 6 6 p1)).bind fun σ2 => some σ2)
noncomputable def f_X3_tonic (σ : ST) (p0 : Int32) : Option (Int32) := (if p0 < 0 then some 0 else (if 8 ≤ p0 then some 0 else (if inB p0 8 then some (σ.1 7 p0.toNatClampNeg) else none)))
noncomputable def f_X3_walks (σ : ST) (p0 : Int32) : Option (Int32) := (if p0 < 0 then some 0 else (if 8 ≤ p0 then some 0 else (if inB p0 8 then some (σ.1 8 p0.toNatClampNeg) else none)))
noncomputable def f_X3_addWalk (p0 : Int32) (σ : ST) : Option (ST) := (if p0 < 0 then some σ else (if 8 ≤ p0 then some σ else (if inB p0 8 then (if inB p0 8 then (some (uI σ 8 (p0.toNatClampNeg) ((σ.1 8 p0.toNatClampNeg) + 1))).bind fun σ4 => (some (uI σ4 6 9 ((σ4.1 6 9) + 1))).bind fun σ6 => some σ6 else none) else none)))
noncomputable def f_X3_addSight (p0 : Int32) (p1 : Int32) (p2 : Int32) (σ : ST) : Option (ST) := (if (σ.1 6 10) < 0 then some σ else (if 6 ≤ (σ.1 6 10) then some σ else (if inB (σ.1 6 10) 6 then (some (uI σ 9 ((σ.1 6 10).toNatClampNeg) p0)).bind fun σ3 => (if inB (σ3.1 6 10) 6 then (some (uI σ3 10 ((σ3.1 6 10).toNatClampNeg) p1)).bind fun σ5 => (if inB (σ5.1 6 10) 6 then (some (uI σ5 11 ((σ5.1 6 10).toNatClampNeg) p2)).bind fun σ7 => (some (uI σ7 6 10 ((σ7.1 6 10) + 1))).bind fun σ9 => some σ9 else none) else none) else none)))
noncomputable def f_X3_fits_L3 (a1 : Nat) (σ : ST) : Nat → Int32 → Int32 → Int32 → Option (Int32)
  | 0, _, _, _ => none
  | n + 1, v2, v3, v4 => (if (σ.1 6 10) ≤ v4 then some 1 else (if 6 ≤ v4 then some 1 else (if inB v4 6 then (if (σ.1 9 v4.toNatClampNeg) = v2 then (if inB v4 6 then (f_X7_alone a1 σ (σ.1 10 v4.toNatClampNeg) v3).bind fun r8 => (if inB v4 6 then (if r8 = (σ.1 11 v4.toNatClampNeg) then (some (v4 + 1)).bind fun x11 => ((f_X3_fits_L3 a1 σ n)) v2 v3 x11 else some 0) else none) else none) else (some (v4 + 1)).bind fun x5 => ((f_X3_fits_L3 a1 σ n)) v2 v3 x5) else none)))
noncomputable def f_X3_fits (a1 : Nat) (σ : ST) (p1 : Int32) (p2 : Int32) : Option (Int32) := f_X3_fits_L3 a1 σ fuel p1 p2 0
noncomputable def f_X9_passage (σ : ST) (p0 : Int32) (p1 : Int32) (p2 : Int64) : Option (Option Nat) := (f_X1_from σ p0 p1).bind fun r2 => Option.elim r2 (some none) (fun a3 => (if pv σ a3 then (fd_open (σ.2.2.2.2.1 a3) p2 (σ.1 6 8)).bind fun r5 => (if r5 = 0 then some none else some ((some a3))) else none))
noncomputable def f_X9_countOpen_L4 (σ : ST) : Nat → Int32 → Int32 → Option (Int32)
  | 0, _, _ => none
  | n + 1, v1, v2 => (if (σ.1 4 2) ≤ v2 then some v1 else (f_X9_passage σ (σ.1 6 7) v2 (σ.2.1 6 5)).bind fun r3 => (Option.elim r3 (some v1) (fun a5 => (some (v1 + 1)).bind fun x6 => some x6)).bind fun x4 => (some (v2 + 1)).bind fun x7 => ((f_X9_countOpen_L4 σ n)) x4 x7)
noncomputable def f_X9_countOpen (σ : ST) : Option (Int32) := f_X9_countOpen_L4 σ fuel 0 0
noncomputable def f_X9_nearest_L7 (σ : ST) : Nat → Int32 → Int32 → Int32 → Option (Int32)
  | 0, _, _, _ => none
  | n + 1, v1, v2, v3 => (if (σ.1 4 2) ≤ v3 then some v1 else (f_X9_passage σ (σ.1 6 7) v3 (σ.2.1 6 5)).bind fun r3 => Option.elim r3 ((some (v3 + 1)).bind fun x5 => ((f_X9_nearest_L7 σ n)) v1 v2 x5) (fun a4 => (f_X3_tonic σ v3).bind fun r7 => (if pv σ a4 then (f_X7_carry a4 σ (σ.2.1 6 5) r7).bind fun r9 => (f_X8_unlike r9 (σ.2.1 6 6)).bind fun r12 => (if v2 ≤ r12 then (some (v3 + 1)).bind fun x14 => ((f_X9_nearest_L7 σ n)) v1 v2 x14 else (some (v3 + 1)).bind fun x15 => ((f_X9_nearest_L7 σ n)) v3 r12 x15) else none)))
noncomputable def f_X9_nearest (σ : ST) : Option (Int32) := f_X9_nearest_L7 σ fuel (-1) 9 0
noncomputable def f_X9_seekWay_B142 (rec : Int64 → Int32 → Int32 → Int32 → ST → Option (Int32 × ST)) (v4 : Int32) (v6 : Int32) (v7 : Int32) (v10 : Int32) (σ : ST) : Option (Int32 × ST) := (if inB v4 5 then (some (uI σ 12 (v4.toNatClampNeg) v7)).bind fun σ24 => (some ((if v6 = 0 then (σ24.1 3 5) else v10))).bind fun x26 => (some (uI σ24 3 5 x26)).bind fun σ28 => some (1, σ28) else none)
noncomputable def f_X9_seekWay_B135 (rec : Int64 → Int32 → Int32 → Int32 → ST → Option (Int32 × ST)) (k_43 : Int64 → Int32 → Int32 → Int32 → Int32 → Int32 → ST → Option (Int32 × ST)) (v1 : Int64) (v3 : Int32) (v4 : Int32) (v5 : Int32) (v6 : Int32) (v7 : Int32) (v10 : Int32) (s0 : Int32) (σ : ST) : Option (Int32 × ST) := (if s0 = 0 then (some (v7 + 1)).bind fun x23 => k_43 v1 v3 v4 v5 v6 x23 σ else f_X9_seekWay_B142 rec v4 v6 v7 v10 σ)
noncomputable def f_X9_seekWay_L43 (rec : Int64 → Int32 → Int32 → Int32 → ST → Option (Int32 × ST)) : Nat → Int64 → Int32 → Int32 → Int32 → Int32 → Int32 → ST → Option (Int32 × ST)
  | 0, _, _, _, _, _, _, _ => none
  | n + 1, v1, v3, v4, v5, v6, v7, σ => (if (σ.1 4 2) ≤ v7 then some (0, σ) else (f_X9_passage σ v3 v7 v1).bind fun r8 => Option.elim r8 ((some (v7 + 1)).bind fun x10 => ((f_X9_seekWay_L43 rec n)) v1 v3 v4 v5 v6 x10 σ) (fun a9 => (f_X3_tonic σ v7).bind fun r12 => (if pv σ a9 then (f_X7_across a9 σ v3).bind fun r14 => (if v6 = 0 then (f_X7_carry a9 σ v1 r12).bind fun r18 => o_b2 (rec r18 r14 (v4 + 1) v5 σ) fun r21 σ20 => f_X9_seekWay_B135 rec ((f_X9_seekWay_L43 rec n)) v1 v3 v4 v5 v6 v7 r14 r21 σ20 else (f_X7_makes a9 σ v1 r12 (σ.2.1 6 6)).bind fun r30 => f_X9_seekWay_B135 rec ((f_X9_seekWay_L43 rec n)) v1 v3 v4 v5 v6 v7 r14 r30 σ) else none)))
noncomputable def f_X9_seekWay_B38 (rec : Int64 → Int32 → Int32 → Int32 → ST → Option (Int32 × ST)) (v1 : Int64) (v3 : Int32) (v4 : Int32) (v5 : Int32) (s0 : Int32) (σ : ST) : Option (Int32 × ST) := f_X9_seekWay_L43 rec fuel v1 v3 v4 v5 s0 0 σ
noncomputable def f_X9_seekWay : Nat → Int64 → Int32 → Int32 → Int32 → ST → Option (Int32 × ST)
  | 0, _, _, _, _, _ => none
  | d + 1, p0, p1, p2, p3, σ => (if p2 < 0 then some (0, σ) else (if p3 ≤ p2 then some (0, σ) else (if p2 < 5 then (some ((if p2 = (p3 - 1) then 1 else 0))).bind fun x4 => f_X9_seekWay_B38 (f_X9_seekWay d) p0 p1 p2 p3 x4 σ else some (0, σ))))
noncomputable def f_X9_findWay_L58 : Nat → Int32 → ST → Option (Int32 × ST)
  | 0, _, _ => none
  | n + 1, v1, σ => (if 5 < v1 then some ((-1), σ) else o_b2 (f_X9_seekWay 8 (σ.2.1 6 5) (σ.1 6 7) 0 v1 σ) fun r10 σ9 => (if r10 = 0 then (some (v1 + 1)).bind fun x12 => ((f_X9_findWay_L58 n)) x12 σ9 else some (v1, σ9)))
noncomputable def f_X9_findWay (σ : ST) : Option (Int32 × ST) := (if (σ.2.1 6 5) = (σ.2.1 6 6) then (some (uI σ 3 5 (σ.1 6 7))).bind fun σ13 => some (0, σ13) else (f_X8_length (σ.2.1 6 5)).bind fun r3 => (f_X8_length (σ.2.1 6 6)).bind fun r5 => (if r3 = r5 then f_X9_findWay_L58 fuel 1 σ else some ((-1), σ)))
noncomputable def f_X9_wayStreet (σ : ST) (p0 : Int32) (p1 : Int32) : Option (Int32) := (if p0 < 0 then some (-1) else (if p1 ≤ p0 then some (-1) else (if 5 ≤ p0 then some (-1) else (if inB p0 5 then some (σ.1 12 p0.toNatClampNeg) else none))))
noncomputable def f_X9_meet_B56 (v1 : Int64) (v3 : Int32) (σ : ST) : Option (ST) := (if inB v3 1024 then (some (uL σ 13 v3.toNatClampNeg v1)).bind fun σ12 => (some (uI σ12 3 4 ((σ12.1 3 4) + 1))).bind fun σ14 => some σ14 else none)
noncomputable def f_X9_meet_B33 (k_10 : Int64 → Int32 → Int32 → ST → Option (ST)) (v1 : Int64) (v3 : Int32) (v4 : Int32) (σ : ST) : Option (ST) := (if inB v3 1024 then (if (σ.2.1 13 v3.toNatClampNeg) = v1 then some σ else (if inB v3 1024 then (if (σ.2.1 13 v3.toNatClampNeg) = 0 then f_X9_meet_B56 v1 v3 σ else (some (v3 + 1)).bind fun x10 => (some (v4 + 1)).bind fun x11 => k_10 v1 x10 x11 σ) else none)) else none)
noncomputable def f_X9_meet_L10 : Nat → Int64 → Int32 → Int32 → ST → Option (ST)
  | 0, _, _, _, _ => none
  | n + 1, v1, v3, v4, σ => (if 1024 ≤ v4 then some σ else (some ((if v3 < 0 then 0 else (if v3 < 1024 then v3 else 0)))).bind fun x3 => f_X9_meet_B33 ((f_X9_meet_L10 n)) v1 x3 v4 σ)
noncomputable def f_X9_meet (p0 : Int64) (σ : ST) : Option (ST) := (some ((j_lrem p0 1021).toInt32)).bind fun x1 => f_X9_meet_L10 fuel p0 x1 0 σ
noncomputable def f_X9_meetTunes_L14 (rec : Int64 → Int32 → Int32 → ST → Option (ST)) : Nat → Int64 → Int32 → Int32 → Int32 → ST → Option (ST)
  | 0, _, _, _, _, _ => none
  | n + 1, v1, v3, v4, v5, σ => (if (σ.1 4 2) ≤ v5 then some σ else (f_X9_passage σ v3 v5 v1).bind fun r4 => Option.elim r4 ((some (v5 + 1)).bind fun x6 => ((f_X9_meetTunes_L14 rec n)) v1 v3 v4 x6 σ) (fun a5 => (f_X3_tonic σ v5).bind fun r8 => (if pv σ a5 then (f_X7_carry a5 σ v1 r8).bind fun r10 => (f_X7_across a5 σ v3).bind fun r13 => (rec r10 r13 (v4 - 1) σ).bind fun σ15 => (some (v5 + 1)).bind fun x16 => ((f_X9_meetTunes_L14 rec n)) v1 v3 v4 x16 σ15 else none)))
noncomputable def f_X9_meetTunes : Nat → Int64 → Int32 → Int32 → ST → Option (ST)
  | 0, _, _, _, _ => none
  | d + 1, p0, p1, p2, σ => (if 0 < p2 then f_X9_meetTunes_L14 (f_X9_meetTunes d) fuel p0 p1 p2 0 σ else (f_X9_meet p0 σ).bind fun σ18 => some σ18)
noncomputable def f_X9_tunesBehind_B29 (v1 : Int32) (σ : ST) : Option (Int32 × ST) := (f_X9_meetTunes 8 (σ.2.1 6 5) (σ.1 6 7) (if 3 < v1 then 3 else v1) σ).bind fun σ4 => some (σ4.1 3 4, σ4)
noncomputable def f_X9_tunesBehind_L7 : Nat → Int32 → Int32 → ST → Option (Int32 × ST)
  | 0, _, _, _ => none
  | n + 1, v1, v2, σ => (if 1024 ≤ v2 then f_X9_tunesBehind_B29 v1 σ else (if inB v2 1024 then (some (uL σ 13 v2.toNatClampNeg 0)).bind fun σ5 => (some (v2 + 1)).bind fun x7 => ((f_X9_tunesBehind_L7 n)) v1 x7 σ5 else none))
noncomputable def f_X9_tunesBehind (p0 : Int32) (σ : ST) : Option (Int32 × ST) := (some (uI σ 3 4 0)).bind fun σ1 => f_X9_tunesBehind_L7 fuel p0 0 σ1
noncomputable def f_X9_drawStreet (p0 : Int32) (σ : ST) : Option (Int32 × ST) := (f_X1_countAt σ p0).bind fun r2 => (if 0 < r2 then (some (uL σ 3 8 (j_lrem ((1103515245 * (σ.2.1 3 8)) + 12345) 2147483648))).bind fun σ4 => (if ¬ (r2.toInt64) = 0 then (f_X1_numberAt σ4 p0 ((j_lrem ((σ4.2.1 3 8) / 65536) (r2.toInt64)).toInt32)).bind fun r7 => some (r7, σ4) else none) else some ((-1), σ))
noncomputable def f_X9_wanderOff_B103 (k_33 : Int32 → Int64 → Int32 → ST → Option (ST)) (v1 : Int32) (v3 : Int64) (v5 : Int32) (σ : ST) : Option (ST) := (if v3 = (σ.2.1 6 6) then (some (uI σ 3 6 ((σ.1 3 6) + 1))).bind fun σ15 => (some (v5 + 1)).bind fun x16 => k_33 v1 v3 x16 σ15 else (some (v5 + 1)).bind fun x14 => k_33 v1 v3 x14 σ)
noncomputable def f_X9_wanderOff_L33 : Nat → Int32 → Int64 → Int32 → ST → Option (ST)
  | 0, _, _, _, _ => none
  | n + 1, v1, v3, v5, σ => (if v1 ≤ v5 then some σ else (if 60 ≤ v5 then some σ else o_b2 (f_X9_drawStreet (σ.1 3 7) σ) fun r9 σ8 => (f_X9_passage σ8 (σ8.1 3 7) r9 v3).bind fun r11 => Option.elim r11 (f_X9_wanderOff_B103 ((f_X9_wanderOff_L33 n)) v1 v3 v5 σ8) (fun a12 => (f_X3_tonic σ8 r9).bind fun r18 => (if pv σ8 a12 then (f_X7_carry a12 σ8 v3 r18).bind fun r20 => (f_X7_across a12 σ8 (σ8.1 3 7)).bind fun r23 => (some (uI σ8 3 7 r23)).bind fun σ24 => f_X9_wanderOff_B103 ((f_X9_wanderOff_L33 n)) v1 r20 v5 σ24 else none))))
noncomputable def f_X9_wanderOff (p0 : Int32) (p1 : Int32) (σ : ST) : Option (ST) := (some (σ.2.1 6 5)).bind fun x1 => (some (uI σ 3 6 0)).bind fun σ2 => (some (uI σ2 3 7 (σ2.1 6 7))).bind fun σ3 => (some (uL σ3 3 8 (p1.toInt64))).bind fun σ4 => f_X9_wanderOff_L33 fuel p0 x1 0 σ4
noncomputable def f_X10_mix (p0 : Int64) (p1 : Int32) : Option (Int64) := some ((31 * p0) + (p1.toInt64))
noncomputable def f_X10_noCity (σ : ST) : Option (Int32) := (if (σ.1 4 2) = 0 then some 1 else some 0)
noncomputable def f_X10_noTunes (σ : ST) : Option (Int32) := (if (σ.2.1 6 5) = 0 then some 1 else (if (σ.2.1 6 6) = 0 then some 1 else some 0))
noncomputable def f_X10_leaves_L4 (a1 : Nat) (σ : ST) : Nat → Int32 → Int32 → Int32 → Option (Int32)
  | 0, _, _, _ => none
  | n + 1, v1, v2, v3 => (if 12 ≤ v3 then some v2 else (f_X7_alone a1 σ v3 v1).bind fun r3 => (some ((if r3 = v3 then (v2 ||| (j_shl 1 v3)) else v2))).bind fun x4 => (some (v3 + 1)).bind fun x6 => ((f_X10_leaves_L4 a1 σ n)) v1 x4 x6)
noncomputable def f_X10_leaves (a1 : Nat) (σ : ST) (p1 : Int32) : Option (Int32) := f_X10_leaves_L4 a1 σ fuel p1 0 0
noncomputable def f_X10_again_L25 (a1 : Nat) (σ : ST) : Nat → Int32 → Int64 → Int32 → Option (Int32)
  | 0, _, _, _ => none
  | n + 1, v2, v3, v5 => (if 24 < v5 then some (-1) else (f_X7_carry a1 σ v3 v2).bind fun r5 => (if r5 = (σ.2.1 6 5) then some v5 else (some (v5 + 1)).bind fun x7 => ((f_X10_again_L25 a1 σ n)) v2 r5 x7))
noncomputable def f_X10_again (a1 : Nat) (σ : ST) (p1 : Int32) : Option (Int32) := (if (σ.2.1 6 5) = 0 then some (-1) else (some (σ.2.1 6 5)).bind fun x2 => f_X10_again_L25 a1 σ fuel p1 x2 1)
noncomputable def f_X10_tonics_L5 (a1 : Nat) (σ : ST) : Nat → Int32 → Int32 → Int32 → Option (Int32)
  | 0, _, _, _ => none
  | n + 1, v2, v3, v4 => (if 12 ≤ v4 then some v3 else (f_X3_fits a1 σ v2 v4).bind fun r3 => (some ((if r3 = 0 then v3 else (v3 ||| (j_shl 1 v4))))).bind fun x4 => (some (v4 + 1)).bind fun x6 => ((f_X10_tonics_L5 a1 σ n)) v2 x4 x6)
noncomputable def f_X10_tonics (a1 : Nat) (σ : ST) (p1 : Int32) : Option (Int32) := f_X10_tonics_L5 a1 σ fuel p1 0 0
noncomputable def f_X10_leftAtWorst_L8 (a1 : Nat) (σ : ST) : Nat → Int32 → Int32 → Int64 → Int32 → Int32 → Option (Int32)
  | 0, _, _, _, _, _ => none
  | n + 1, v1, v2, v3, v5, v6 => (if 12 ≤ v6 then some v5 else (if ((j_shr v2 v6) &&& 1) = 1 then (f_X7_alone a1 σ v1 v6).bind fun r5 => (some (4 * r5)).bind fun x6 => (some (v3 + (j_lshl 1 x6))).bind fun x7 => (some (if v5 < (((j_lushr x7 x6) &&& 15).toInt32) then (((j_lushr x7 x6) &&& 15).toInt32) else v5)).bind fun x8 => (some (v6 + 1)).bind fun x9 => ((f_X10_leftAtWorst_L8 a1 σ n)) v1 v2 x7 x8 x9 else (some (v6 + 1)).bind fun x3 => ((f_X10_leftAtWorst_L8 a1 σ n)) v1 v2 v3 v5 x3))
noncomputable def f_X10_leftAtWorst (a1 : Nat) (σ : ST) (p1 : Int32) (p2 : Int32) : Option (Int32) := f_X10_leftAtWorst_L8 a1 σ fuel p1 p2 0 0 0
noncomputable def f_X10_ask_L14 (a1 : Nat) (σ : ST) : Nat → Int32 → Int32 → Int32 → Int32 → Option (Int32)
  | 0, _, _, _, _ => none
  | n + 1, v1, v2, v3, v4 => (if 12 ≤ v4 then some v2 else (f_X10_leftAtWorst a1 σ v4 v1).bind fun r4 => (if v3 ≤ r4 then (some (v4 + 1)).bind fun x6 => ((f_X10_ask_L14 a1 σ n)) v1 v2 v3 x6 else (some (v4 + 1)).bind fun x7 => ((f_X10_ask_L14 a1 σ n)) v1 v4 r4 x7))
noncomputable def f_X10_ask (a1 : Nat) (σ : ST) (p1 : Int32) : Option (Int32) := (if p1 = 0 then some (-1) else f_X10_ask_L14 a1 σ fuel p1 (-1) 13 0)
noncomputable def f_X10_letter (p0 : Int32) (σ : ST) : Option (Int32 × ST) := (if p0 < 1 then some ((-102), σ) else (if p0 ≤ 126 then (if (σ.1 1 1) < 44 then (f_X4_add p0 σ).bind fun σ5 => some (σ5.1 1 1, σ5) else some ((-104), σ)) else some ((-102), σ)))
noncomputable def f_X10_blank (σ : ST) : Option (Int32 × ST) := (some (σ.1 1 1)).bind fun x1 => (some (uI σ 1 1 0)).bind fun σ2 => some (x1, σ2)
noncomputable def f_X10_fault (σ : ST) : Option (Int32) := (f_X4_firstFault σ).bind fun r2 => some r2
noncomputable def f_X10_tune_B12 (v1 : Int32) (σ : ST) : Option (Int32 × ST) := (f_X4_asTune σ).bind fun r3 => (if r3 = 0 then some ((-103), σ) else (f_X3_setTune v1 r3 σ).bind fun σ6 => (some (uI σ6 1 1 0)).bind fun σ7 => (f_X8_length r3).bind fun r9 => some (r9, σ7))
noncomputable def f_X10_tune (p0 : Int32) (σ : ST) : Option (Int32 × ST) := (if p0 = 0 then f_X10_tune_B12 p0 σ else (if p0 = 1 then f_X10_tune_B12 p0 σ else some ((-101), σ)))
noncomputable def f_X10_told (σ : ST) (p0 : Int32) (p1 : Int32) : Option (Int32) := (f_X3_tuneOf σ p0).bind fun r2 => (if r2 = 0 then some (-101) else (if p1 = 0 then (f_X8_length r2).bind fun r6 => some r6 else (if p1 = 1 then (f_X8_tritones r2).bind fun r9 => some r9 else (if p1 = 2 then (f_X8_key r2).bind fun r12 => some r12 else (if p1 = 3 then (f_X8_key r2).bind fun r15 => (f_X8_inKey r2 r15).bind fun r17 => some r17 else (if p1 = 4 then (f_X8_bits r2).bind fun r20 => some r20 else (if p1 < 10 then some (-102) else (if 18 ≤ p1 then some (-102) else (f_X8_note r2 (p1 - 10)).bind fun r24 => some r24))))))))
noncomputable def f_X10_street (σ : ST) (p0 : Int32) (p1 : Int32) : Option (Int32) := (f_X1_at σ p0).bind fun r2 => Option.elim r2 (some (-101)) (fun a3 => (if p1 = 0 then (if pv σ a3 then (fd_kind (σ.2.2.2.2.1 a3)).bind fun r6 => some r6 else none) else (if p1 = 1 then (if pv σ a3 then some (σ.2.2.2.2.2.1 a3) else none) else (if p1 = 2 then (if pv σ a3 then some (σ.2.2.2.2.2.2 a3) else none) else (if p1 = 3 then (f_X3_tonic σ p0).bind fun r14 => some r14 else (if p1 = 4 then (f_X3_tonic σ p0).bind fun r17 => (if pv σ a3 then (f_X10_leaves a3 σ r17).bind fun r20 => some r20 else none) else (if p1 = 5 then (f_X3_tonic σ p0).bind fun r23 => (if pv σ a3 then (f_X10_again a3 σ r23).bind fun r26 => some r26 else none) else (if p1 = 6 then (if pv σ a3 then (f_X10_tonics a3 σ p0).bind fun r30 => some r30 else none) else (if p1 = 7 then (if pv σ a3 then (f_X10_tonics a3 σ p0).bind fun r34 => (f_X10_ask a3 σ r34).bind fun r36 => some r36 else none) else (if p1 = 8 then (f_X3_walks σ p0).bind fun r39 => some r39 else some (-102)))))))))))
noncomputable def f_X10_as (σ : ST) (p0 : Int32) (p1 : Int32) : Option (Int32) := (f_X1_at σ p0).bind fun r2 => Option.elim r2 (some (-101)) (fun a3 => (if p1 = 0 then some p0 else (if p1 = 1 then (if pv σ a3 then (if (isK (σ.2.2.2.2.1 a3) [2, 5]) = 0 then some (-1) else some p0) else none) else (if p1 = 2 then (if pv σ a3 then (if (isK (σ.2.2.2.2.1 a3) [0]) = 0 then some (-1) else some p0) else none) else (if p1 = 3 then (if pv σ a3 then (if (isK (σ.2.2.2.2.1 a3) [6]) = 0 then some (-1) else some p0) else none) else (if p1 = 4 then (if pv σ a3 then (if (isK (σ.2.2.2.2.1 a3) [5]) = 0 then some (-1) else some p0) else none) else some (-102)))))))
noncomputable def f_X10_comes (σ : ST) (p0 : Int32) (p1 : Int32) : Option (Int32) := (f_X1_at σ p0).bind fun r2 => Option.elim r2 (some (-101)) (fun a3 => (f_X10_isNote p1).bind fun r5 => (if r5 = 0 then some (-102) else (f_X3_tonic σ p0).bind fun r8 => (if pv σ a3 then (f_X7_alone a3 σ p1 r8).bind fun r10 => some r10 else none)))
noncomputable def f_X10_walk (p0 : Int32) (σ : ST) : Option (Int32 × ST) := (f_X1_at σ p0).bind fun r2 => Option.elim r2 (some ((-101), σ)) (fun a3 => (if (σ.2.1 6 5) = 0 then some ((-103), σ) else (if pv σ a3 then (f_X7_endsAt a3 σ (σ.1 6 7)).bind fun r6 => (if r6 = 0 then some ((-103), σ) else (fd_open (σ.2.2.2.2.1 a3) (σ.2.1 6 5) (σ.1 6 8)).bind fun r10 => (if r10 = 0 then some ((-103), σ) else (if (σ.1 6 9) < 999 then (f_X3_tonic σ p0).bind fun r14 => (f_X7_carry a3 σ (σ.2.1 6 5) r14).bind fun r16 => (some (uL σ 6 5 r16)).bind fun σ17 => (if pv σ17 a3 then (f_X7_across a3 σ17 (σ17.1 6 7)).bind fun r19 => (some (uI σ17 6 7 r19)).bind fun σ21 => (f_X3_addWalk p0 σ21).bind fun σ23 => some (σ23.1 6 7, σ23) else none) else some ((-104), σ)))) else none)))
noncomputable def f_X10_stand (p0 : Int32) (σ : ST) : Option (Int32 × ST) := (if p0 < 0 then some ((-101), σ) else (if p0 < (σ.1 4 1) then (some (σ.1 6 7)).bind fun x3 => (some (uI σ 6 7 p0)).bind fun σ4 => some (x3, σ4) else some ((-101), σ)))
noncomputable def f_X10_dusk_B29 (s0 : Int32) (σ : ST) : Option (Int32 × ST) := (if s0 = 0 ∨ s0 = 1 then (some (uI σ 6 8 s0)).bind fun σ6 => (if (σ6.1 6 8) = 0 then some (0, σ6) else some (1, σ6)) else none)
noncomputable def f_X10_dusk (σ : ST) : Option (Int32 × ST) := (f_X10_noCity σ).bind fun r2 => (if r2 = 0 then (some ((if (σ.1 6 8) = 0 then 1 else 0))).bind fun x4 => f_X10_dusk_B29 x4 σ else some ((-103), σ))
noncomputable def f_X10_sing (p0 : Int32) (p1 : Int32) (p2 : Int32) (σ : ST) : Option (Int32 × ST) := (f_X3_tuneOf σ p0).bind fun r2 => (f_X8_note r2 p1).bind fun r4 => (if r4 = (-1) then some ((-101), σ) else (f_X10_isNote p2).bind fun r7 => (if r7 = 0 then some ((-102), σ) else (f_X8_with r2 p1 p2).bind fun r10 => (f_X3_setTune p0 r10 σ).bind fun σ12 => some (r4, σ12)))
noncomputable def f_X10_raise (p0 : Int32) (p1 : Int32) (σ : ST) : Option (Int32 × ST) := (f_X1_at σ p0).bind fun r2 => Option.elim r2 (some ((-101), σ)) (fun a3 => (f_X10_isNote p1).bind fun r5 => (if r5 = 0 then some ((-102), σ) else (f_X3_tonic σ p0).bind fun r8 => (f_X3_setTonic p0 p1 σ).bind fun σ10 => some (r8, σ10)))
noncomputable def f_X10_way_B34 (v1 : Int32) (σ : ST) : Option (Int32 × ST) := (f_X10_noCity σ).bind fun r6 => (if r6 = 0 then (f_X10_noTunes σ).bind fun r9 => (if r9 = 0 then (if (σ.1 0 7) < 16 then (some (uI σ 0 7 ((σ.1 0 7) + 1))).bind fun σ12 => o_b2 (f_X9_findWay σ12) fun r15 σ14 => (if r15 = (-1) then some (r15, σ14) else (if v1 = 0 then some (r15, σ14) else (if v1 = 1 then some (σ14.1 3 5, σ14) else (f_X9_wayStreet σ14 (v1 - 10) r15).bind fun r20 => some (r20, σ14)))) else some ((-103), σ)) else some ((-103), σ)) else some ((-103), σ))
noncomputable def f_X10_way_B17 (v1 : Int32) (s0 : Int32) (σ : ST) : Option (Int32 × ST) := (if v1 = 0 then f_X10_way_B34 v1 σ else (if v1 = 1 then f_X10_way_B34 v1 σ else (if s0 = 0 then some ((-102), σ) else f_X10_way_B34 v1 σ)))
noncomputable def f_X10_way (p0 : Int32) (σ : ST) : Option (Int32 × ST) := (some ((if p0 < 10 then 0 else (if 15 ≤ p0 then 0 else 1)))).bind fun x1 => f_X10_way_B17 p0 x1 σ
noncomputable def f_X10_become (p0 : Int32) (σ : ST) : Option (Int32 × ST) := (if p0 < 0 then some ((-102), σ) else (if p0 ≤ 3 then (f_X10_noCity σ).bind fun r4 => (if r4 = 0 then (if (σ.2.1 6 5) = 0 then some ((-103), σ) else o_b2 (f_X9_tunesBehind p0 σ) fun r9 σ8 => some (r9, σ8)) else some ((-103), σ)) else some ((-102), σ)))
noncomputable def f_X10_apart (σ : ST) : Option (Int32) := (f_X10_noTunes σ).bind fun r2 => (if r2 = 0 then (f_X8_unlike (σ.2.1 6 5) (σ.2.1 6 6)).bind fun r5 => some r5 else some (-103))
noncomputable def f_X10_near (σ : ST) : Option (Int32) := (f_X10_noCity σ).bind fun r2 => (if r2 = 0 then (f_X10_noTunes σ).bind fun r5 => (if r5 = 0 then (f_X9_nearest σ).bind fun r8 => some r8 else some (-103)) else some (-103))
noncomputable def f_X10_see (p0 : Int32) (p1 : Int32) (p2 : Int32) (σ : ST) : Option (Int32 × ST) := (f_X1_at σ p0).bind fun r2 => Option.elim r2 (some ((-101), σ)) (fun a3 => (f_X10_isNote p1).bind fun r5 => (if r5 = 0 then some ((-102), σ) else (f_X10_isNote p2).bind fun r8 => (if r8 = 0 then some ((-102), σ) else (if (σ.1 6 10) < 6 then (f_X3_addSight p0 p1 p2 σ).bind fun σ12 => some (σ12.1 6 10, σ12) else some ((-104), σ)))))
noncomputable def f_X10_forget (σ : ST) : Option (Int32 × ST) := (some (σ.1 6 10)).bind fun x1 => (some (uI σ 6 10 0)).bind fun σ2 => some (x1, σ2)
noncomputable def f_X10_wander (p0 : Int32) (p1 : Int32) (p2 : Int32) (σ : ST) : Option (Int32 × ST) := (if p0 < 1 then some ((-102), σ) else (if 60 < p0 then some ((-102), σ) else (if p1 < 0 then some ((-102), σ) else (if p2 < 0 then some ((-102), σ) else (if p2 ≤ 2 then (f_X10_noCity σ).bind fun r7 => (if r7 = 0 then (f_X10_noTunes σ).bind fun r10 => (if r10 = 0 then (f_X9_wanderOff p0 p1 σ).bind fun σ13 => (if p2 = 0 then some (σ13.1 3 6, σ13) else (if p2 = 1 then some (σ13.1 3 7, σ13) else some ((σ13.2.1 3 8).toInt32, σ13))) else some ((-103), σ)) else some ((-103), σ)) else some ((-102), σ))))))
noncomputable def f_X10_image (σ : ST) : Option (Int32 × ST) := (f_X10_noCity σ).bind fun r2 => (if r2 = 0 then (f_X3_copyI σ).bind fun σ5 => (some (uI σ5 0 6 (σ5.1 0 5))).bind fun σ6 => some (σ6.1 6 9, σ6) else some ((-103), σ))
noncomputable def f_X10_restore (σ : ST) : Option (Int32 × ST) := (if (σ.1 0 6) = 0 then some ((-103), σ) else (if (σ.1 0 6) = (σ.1 0 5) then (f_X3_copy σ).bind fun σ4 => some (σ4.1 6 9, σ4) else some ((-103), σ)))
noncomputable def f_X10_count (σ : ST) (p0 : Int32) : Option (Int32) := (if p0 = 0 then some (σ.1 4 1) else (if p0 = 1 then some (σ.1 4 2) else (if p0 = 2 then some (σ.1 6 7) else (if p0 = 3 then (if (σ.1 6 8) = 0 then some 0 else some 1) else (if p0 = 4 then (f_X1_countAt σ (σ.1 6 7)).bind fun r8 => some r8 else (if p0 = 5 then (if (σ.2.1 6 5) = 0 then some 0 else (f_X9_countOpen σ).bind fun r12 => some r12) else (if p0 = 6 then some (σ.1 6 9) else (if p0 = 7 then (f_X8_length (σ.2.1 6 5)).bind fun r16 => some r16 else (if p0 = 8 then (f_X8_length (σ.2.1 6 6)).bind fun r19 => some r19 else (if p0 = 9 then some (σ.1 6 10) else (if p0 = 10 then some (σ.1 1 1) else (if p0 = 11 then some (σ.1 0 5) else (if p0 = 12 then some (σ.1 0 7) else some (-102))))))))))))))
noncomputable def f_X10_digestTune_L51 (σ : ST) : Nat → Int32 → Int64 → Int32 → Option (Int64)
  | 0, _, _, _ => none
  | n + 1, v3, v4, v6 => (if 18 ≤ v6 then some v4 else (f_X10_told σ v3 v6).bind fun r7 => (f_X10_mix v4 r7).bind fun r9 => (some (v6 + 1)).bind fun x10 => ((f_X10_digestTune_L51 σ n)) v3 r9 x10)
noncomputable def f_X10_digestTune_B47 (σ : ST) (v3 : Int32) (v4 : Int64) : Option (Int64) := f_X10_digestTune_L51 σ fuel v3 v4 10
noncomputable def f_X10_digestTune_L21 (σ : ST) : Nat → Int32 → Int64 → Int32 → Option (Int64)
  | 0, _, _, _ => none
  | n + 1, v3, v4, v6 => (if 4 < v6 then f_X10_digestTune_B47 σ v3 v4 else (f_X10_told σ v3 v6).bind fun r12 => (f_X10_mix v4 r12).bind fun r14 => (some (v6 + 1)).bind fun x15 => ((f_X10_digestTune_L21 σ n)) v3 r14 x15)
noncomputable def f_X10_digestTune (σ : ST) (p0 : Int64) (p1 : Int32) : Option (Int64) := (f_X3_tuneOf σ p1).bind fun r2 => (if r2 = 0 then some p0 else f_X10_digestTune_L21 σ fuel p1 p0 0)
noncomputable def f_X10_digest_L166 : Nat → Int64 → Int32 → ST → Option (Int64 × ST)
  | 0, _, _, _ => none
  | n + 1, v1, v3, σ => (if 12 < v3 then some (v1, σ) else (f_X10_count σ v3).bind fun r9 => (f_X10_mix v1 r9).bind fun r11 => (some (v3 + 1)).bind fun x12 => ((f_X10_digest_L166 n)) r11 x12 σ)
noncomputable def f_X10_digest_B164 (v1 : Int64) (σ : ST) : Option (Int64 × ST) := f_X10_digest_L166 fuel v1 0 σ
noncomputable def f_X10_digest_L134 : Nat → Int64 → Int32 → ST → Option (Int64 × ST)
  | 0, _, _, _ => none
  | n + 1, v1, v3, σ => (if (σ.1 1 1) ≤ v3 then f_X10_digest_B164 v1 σ else (f_X4_at σ v3).bind fun r14 => (f_X10_mix v1 r14).bind fun r16 => (some (v3 + 1)).bind fun x17 => ((f_X10_digest_L134 n)) r16 x17 σ)
noncomputable def f_X10_digest_B132 (v1 : Int64) (σ : ST) : Option (Int64 × ST) := f_X10_digest_L134 fuel v1 0 σ
noncomputable def f_X10_digest_B99 (v1 : Int64) (σ : ST) : Option (Int64 × ST) := (f_X10_noCity σ).bind fun r4 => (if r4 = 0 then (f_X10_noTunes σ).bind fun r19 => (if r19 = 0 then o_b2 (f_X10_become 2 σ) fun r23 σ22 => (f_X10_mix v1 r23).bind fun r25 => (f_X10_near σ22).bind fun r27 => (f_X10_mix r25 r27).bind fun r29 => f_X10_digest_B132 r29 σ22 else f_X10_digest_B132 v1 σ) else f_X10_digest_B132 v1 σ)
noncomputable def f_X10_digest_L81 : Nat → Int64 → Int32 → ST → Option (Int64 × ST)
  | 0, _, _, _ => none
  | n + 1, v1, v3, σ => (if 1 < v3 then f_X10_digest_B99 v1 σ else (f_X10_digestTune σ v1 v3).bind fun r31 => (some (v3 + 1)).bind fun x32 => ((f_X10_digest_L81 n)) r31 x32 σ)
noncomputable def f_X10_digest_B79 (v1 : Int64) (σ : ST) : Option (Int64 × ST) := f_X10_digest_L81 fuel v1 0 σ
noncomputable def f_X10_digest_L48 (k_6 : Int64 → Int32 → ST → Option (Int64 × ST)) : Nat → Int64 → Int32 → Int32 → ST → Option (Int64 × ST)
  | 0, _, _, _, _ => none
  | n + 1, v1, v3, v4, σ => (if 12 ≤ v4 then (some (v3 + 1)).bind fun x35 => k_6 v1 x35 σ else (f_X10_comes σ v3 v4).bind fun r37 => (f_X10_mix v1 r37).bind fun r39 => (some (v4 + 1)).bind fun x40 => ((f_X10_digest_L48 k_6 n)) r39 v3 x40 σ)
noncomputable def f_X10_digest_B45 (k_6 : Int64 → Int32 → ST → Option (Int64 × ST)) (v1 : Int64) (v3 : Int32) (σ : ST) : Option (Int64 × ST) := f_X10_digest_L48 k_6 fuel v1 v3 0 σ
noncomputable def f_X10_digest_L20 (k_6 : Int64 → Int32 → ST → Option (Int64 × ST)) : Nat → Int64 → Int32 → Int32 → ST → Option (Int64 × ST)
  | 0, _, _, _, _ => none
  | n + 1, v1, v3, v4, σ => (if 8 < v4 then f_X10_digest_B45 k_6 v1 v3 σ else (f_X10_street σ v3 v4).bind fun r42 => (f_X10_mix v1 r42).bind fun r44 => (some (v4 + 1)).bind fun x45 => ((f_X10_digest_L20 k_6 n)) r44 v3 x45 σ)
noncomputable def f_X10_digest_L6 : Nat → Int64 → Int32 → ST → Option (Int64 × ST)
  | 0, _, _, _ => none
  | n + 1, v1, v3, σ => (if (σ.1 4 2) ≤ v3 then f_X10_digest_B79 v1 σ else f_X10_digest_L20 ((f_X10_digest_L6 n)) fuel v1 v3 0 σ)
noncomputable def f_X10_digest (σ : ST) : Option (Int64 × ST) := f_X10_digest_L6 fuel 1187 0 σ
