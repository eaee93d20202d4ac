/-! MODELS of the methods, printed by wip/whole/gen.py from the bytecode -/
noncomputable def mJ7_fill_53178_L5 (n_p0 : Nat) (g1 : Int32) (self2 : (Int32 × nF) → Option nF) (x1 : (Int32 × nF)) : Option nF :=
  if (Int32.ofNat n_p0) ≤ x1.1 then (some x1.2) else (gd (inb x1.1 n_p0) (self2 (x1.1 + (1 : Int32), (upd x1.2 x1.1.toNatClampNeg g1))))
noncomputable def mJ7_fill_53178 (F : Nat) (n_p0 : Nat) (f_p0 : nF) (g1 : Int32) : Option nF :=
  lpr (mJ7_fill_53178_L5 n_p0 g1) F ((0 : Int32), f_p0)

noncomputable def mX7_put (n_p0 : Nat) (f_p0 : nF) (g1 : Int32) (g2 : Int32) : Option nF :=
  jn (fun x1 : nF => some x1) (fun j2 => if g1 < 0 then (j2 f_p0) else (if (Int32.ofNat n_p0) ≤ g1 then (j2 f_p0) else (gd (inb g1 n_p0) (j2 (upd f_p0 g1.toNatClampNeg g2)))))

noncomputable def mX3_cells (v_t : MZ) : Option Int32 :=
  some (v_t.1 * v_t.2.1)

noncomputable def mX3_clear (F : Nat) (v_t : MZ) (g1 : Int32) (g2 : Int32) : Option MZ :=
  (mJ7_fill_53178 F 36 v_t.2.2.1 (0 : Int32)).bind fun r1 => (mJ7_fill_53178 F 36 v_t.2.2.2.1 (0 : Int32)).bind fun r2 => (mX7_put 2 v_t.2.2.2.2.1 (0 : Int32) (0 : Int32)).bind fun r3 => (mX7_put 2 v_t.2.2.2.2.2 (0 : Int32) (3 : Int32)).bind fun r4 => (mX3_cells (g1, g2, r1, r2, r3, r4)).bind fun r5 => (mX7_put 2 r3 (1 : Int32) (r5 - (1 : Int32))).bind fun r6 => (mX7_put 2 r4 (1 : Int32) (1 : Int32)).bind fun r7 => some (g1, g2, r1, r2, r6, r7)

noncomputable def mX3_hasCell (v_t : MZ) (g1 : Int32) : Option Int32 :=
  jn (fun x1 : Int32 => gd (zb x1) (some x1)) (fun j2 => jn (fun x3 : Unit => j2 (0 : Int32)) (fun j4 => if g1 < 0 then (j4 ()) else ((mX3_cells v_t).bind fun r5 => if r5 ≤ g1 then (j4 ()) else (j2 (1 : Int32)))))

noncomputable def mX7_at (n_p0 : Nat) (f_p0 : nF) (g1 : Int32) : Option Int32 :=
  jn (fun x1 : Int32 => some x1) (fun j2 => jn (fun x3 : Unit => j2 (0 : Int32)) (fun j4 => if g1 < 0 then (j4 ()) else (if (Int32.ofNat n_p0) ≤ g1 then (j4 ()) else (gd (inb g1 n_p0) (j2 (f_p0 g1.toNatClampNeg))))))

noncomputable def mX3_copyRow_K26 (x1 : nF) : Option nF :=
  some x1
noncomputable def mX3_copyRow_L2 (n_p0 : Nat) (f_p0 : nF) (n_p1 : Nat) (j2 : nF → Option nF) (self4 : (Int32 × nF) → Option nF) (x3 : (Int32 × nF)) : Option nF :=
  if (Int32.ofNat n_p0) ≤ x3.1 then (j2 x3.2) else (if (Int32.ofNat n_p1) ≤ x3.1 then (j2 x3.2) else (gd (inb x3.1 n_p0) (gd (inb x3.1 n_p1) (self4 (x3.1 + (1 : Int32), (upd x3.2 x3.1.toNatClampNeg (f_p0 x3.1.toNatClampNeg)))))))
noncomputable def mX3_copyRow (F : Nat) (n_p0 : Nat) (f_p0 : nF) (n_p1 : Nat) (f_p1 : nF) : Option nF :=
  jn mX3_copyRow_K26 (fun j2 => lpr (mX3_copyRow_L2 n_p0 f_p0 n_p1 j2) F ((0 : Int32), f_p1))

noncomputable def mX3_copyFrom (F : Nat) (v_t : MZ) (v_p1 : MZ) : Option MZ :=
  (mX3_copyRow F 36 v_p1.2.2.1 36 v_t.2.2.1).bind fun r1 => (mX3_copyRow F 36 v_p1.2.2.2.1 36 v_t.2.2.2.1).bind fun r2 => (mX3_copyRow F 2 v_p1.2.2.2.2.1 2 v_t.2.2.2.2.1).bind fun r3 => (mX3_copyRow F 2 v_p1.2.2.2.2.2 2 v_t.2.2.2.2.2).bind fun r4 => some (v_p1.1, v_p1.2.1, r1, r2, r3, r4)

/-- the history, by hand: kept[i] is the maze at the place (i + rot) % 4 -/
noncomputable def mX2_push (F : Nat) (v_t : HS) (v_p1 : MZ) : Option HS :=
  if v_t.1 = 0 then (mX3_copyFrom F (v_t.2.2 ((0 + (v_t.2.1)) % 4)) v_p1).bind fun r => some (1, v_t.2.1, fun j => if j = (0 + (v_t.2.1)) % 4 then r else v_t.2.2 j)
  else if v_t.1 = 1 then (mX3_copyFrom F (v_t.2.2 ((1 + (v_t.2.1)) % 4)) v_p1).bind fun r => some (2, v_t.2.1, fun j => if j = (1 + (v_t.2.1)) % 4 then r else v_t.2.2 j)
  else if v_t.1 = 2 then (mX3_copyFrom F (v_t.2.2 ((2 + (v_t.2.1)) % 4)) v_p1).bind fun r => some (3, v_t.2.1, fun j => if j = (2 + (v_t.2.1)) % 4 then r else v_t.2.2 j)
  else if v_t.1 = 3 then (mX3_copyFrom F (v_t.2.2 ((3 + (v_t.2.1)) % 4)) v_p1).bind fun r => some (4, v_t.2.1, fun j => if j = (3 + (v_t.2.1)) % 4 then r else v_t.2.2 j)
  else if v_t.1 = 4 then (mX3_copyFrom F (v_t.2.2 ((3 + (v_t.2.1 + 1)) % 4)) v_p1).bind fun r => some (4, v_t.2.1 + 1, fun j => if j = (3 + (v_t.2.1 + 1)) % 4 then r else v_t.2.2 j)
  else none
noncomputable def mX2_pop (F : Nat) (v_t : HS) (v_p1 : MZ) : Option (Int32 × Int32 × MZ) :=
  if v_t.1 = 0 then some (0, 0, v_p1)
  else if v_t.1 = 1 then (mX3_copyFrom F v_p1 (v_t.2.2 ((0 + v_t.2.1) % 4))).bind fun r => some (1, 0, r)
  else if v_t.1 = 2 then (mX3_copyFrom F v_p1 (v_t.2.2 ((1 + v_t.2.1) % 4))).bind fun r => some (1, 1, r)
  else if v_t.1 = 3 then (mX3_copyFrom F v_p1 (v_t.2.2 ((2 + v_t.2.1) % 4))).bind fun r => some (1, 2, r)
  else if v_t.1 = 4 then (mX3_copyFrom F v_p1 (v_t.2.2 ((3 + v_t.2.1) % 4))).bind fun r => some (1, 3, r)
  else none

noncomputable def mX7_tone (F : Nat) (v_o1 : MZ) (v_o3 : HS) (g1 : Int32) (g2 : Int32) : Option (Int32 × nF × HS) :=
  (mX3_hasCell v_o1 g1).bind fun r1 => jn (fun x2 : Unit => some ((-1 : Int32), v_o1.2.2.1, v_o3)) (fun j3 => if r1 = 0 then (j3 ()) else (if g2 < 0 then (j3 ()) else (if g2 ≤ (9 : Int32) then ((mX7_at 36 v_o1.2.2.1 g1).bind fun r4 => (mX2_push F v_o3 v_o1).bind fun r5 => (mX7_put 36 v_o1.2.2.1 g1 g2).bind fun r6 => some (r4, r6, r5)) else (j3 ()))))

noncomputable def mX7_isDirection (g0 : Int32) : Option Int32 :=
  jn (fun x1 : Int32 => gd (zb x1) (some x1)) (fun j2 => jn (fun x3 : Unit => j2 (0 : Int32)) (fun j4 => if g0 < 0 then (j4 ()) else (if (4 : Int32) ≤ g0 then (j4 ()) else (j2 (1 : Int32)))))

noncomputable def mX3_beside (v_t : MZ) (g1 : Int32) (g2 : Int32) : Option Int32 :=
  jn (fun x1 : Unit => some (-1 : Int32)) (fun j2 => if g1 < 0 then (j2 ()) else (if (v_t.1 * v_t.2.1) ≤ g1 then (j2 ()) else (if 0 < v_t.1 then (gd (nz v_t.1) (if g2 = (0 : Int32) then (jn (fun x4 : Int32 => some x4) (fun j5 => if g1 < v_t.1 then (j5 (-1 : Int32)) else (j5 (g1 - v_t.1)))) else if g2 = (1 : Int32) then (jn (fun x7 : Int32 => some x7) (fun j8 => if (v_t.1 - (1 : Int32)) ≤ (g1 - g1 / v_t.1 * v_t.1) then (j8 (-1 : Int32)) else (j8 (g1 + (1 : Int32))))) else if g2 = (2 : Int32) then (jn (fun x10 : Int32 => some x10) (fun j11 => if (v_t.1 * v_t.2.1) ≤ (g1 + v_t.1) then (j11 (-1 : Int32)) else (j11 (g1 + v_t.1)))) else if g2 = (3 : Int32) then (jn (fun x13 : Int32 => some x13) (fun j14 => if (g1 - g1 / v_t.1 * v_t.1) ≤ 0 then (j14 (-1 : Int32)) else (j14 (g1 - (1 : Int32))))) else (some (-1 : Int32)))) else (j2 ()))))

noncomputable def mX6_lengthTo (v_t : WY) (g1 : Int32) : Option Int32 :=
  jn (fun x1 : Int32 => some x1) (fun j2 => jn (fun x3 : Unit => j2 (-1 : Int32)) (fun j4 => if g1 < 0 then (j4 ()) else (if (Int32.ofNat 36) ≤ g1 then (j4 ()) else (gd (inb g1 36) (j2 (v_t.2.2.2.1 g1.toNatClampNeg))))))

noncomputable def mX6_reachCell (v_t : WY) (v_p1 : MZ) (g2 : Int32) (g3 : Int32) : Option WY :=
  (mX7_at 36 v_p1.2.2.1 g2).bind fun r1 => (mX7_put 36 v_t.2.1 v_t.1 g2).bind fun r2 => (mX7_put 36 v_t.2.2.1 g2 g3).bind fun r3 => jn (fun x4 : Int32 => (mX7_put 36 v_t.2.2.2.1 g2 x4).bind fun r6 => jn (fun x7 : Int32 => (mX7_put 36 v_t.2.2.2.2 g2 x7).bind fun r9 => some (v_t.1 + (1 : Int32), r2, r3, r6, r9)) (fun j8 => if g3 = (-1 : Int32) then (j8 ((9 : Int32) - ((2 : Int32) * r1))) else ((mX7_at 36 v_t.2.2.2.2 g3).bind fun r10 => j8 (r10 + ((9 : Int32) - ((2 : Int32) * r1)))))) (fun j5 => if g3 = (-1 : Int32) then (j5 (0 : Int32)) else ((mX6_lengthTo (v_t.1 + (1 : Int32), r2, r3, v_t.2.2.2.1, v_t.2.2.2.2) g3).bind fun r11 => j5 (r11 + (1 : Int32))))

noncomputable def mX3_hasPassage (v_t : MZ) (g1 : Int32) (g2 : Int32) : Option Int32 :=
  (mX7_at 36 v_t.2.2.2.1 g1).bind fun r1 => jn (fun x2 : Int32 => gd (zb x2) (some x2)) (fun j3 => if (r1 &&& ((1 : Int32) <<< (g2 &&& 31))) = 0 then (j3 (0 : Int32)) else (j3 (1 : Int32)))

noncomputable def mX6_reach (v_t : WY) (g1 : Int32) : Option Int32 :=
  (mX6_lengthTo v_t g1).bind fun r1 => jn (fun x2 : Int32 => gd (zb x2) (some x2)) (fun j3 => if r1 = (-1 : Int32) then (j3 (0 : Int32)) else (j3 (1 : Int32)))

noncomputable def mX6_findFrom_K106 (x3 : WY) : Option WY :=
  some x3
noncomputable def mX6_findFrom_K100 (self6 : (Int32 × WY) → Option WY) (x5 : (Int32 × WY)) (x8 : WY) : Option WY :=
  self6 (x5.1 + (1 : Int32), x8)
noncomputable def mX6_findFrom_L49 (v_p1 : MZ) (r7 : Int32) (j9 : WY → Option WY) (self11 : (Int32 × WY) → Option WY) (x10 : (Int32 × WY)) : Option WY :=
  if (4 : Int32) ≤ x10.1 then (j9 x10.2) else ((mX3_beside v_p1 r7 x10.1).bind fun r12 => (mX3_hasPassage v_p1 r7 x10.1).bind fun r13 => jn (fun x14 : WY => self11 (x10.1 + (1 : Int32), x14)) (fun j15 => if r13 = 0 then (j15 x10.2) else ((mX6_reach x10.2 r12).bind fun r16 => if r16 = 0 then ((mX6_reachCell x10.2 v_p1 r12 r7).bind fun r17 => j15 r17) else (j15 x10.2))))
noncomputable def mX6_findFrom_L22 (F : Nat) (v_p1 : MZ) (j4 : WY → Option WY) (self6 : (Int32 × WY) → Option WY) (x5 : (Int32 × WY)) : Option WY :=
  if x5.2.1 ≤ x5.1 then (j4 x5.2) else (if (36 : Int32) ≤ x5.1 then (j4 x5.2) else ((mX7_at 36 x5.2.2.1 x5.1).bind fun r7 => jn (mX6_findFrom_K100 self6 x5) (fun j9 => lpr (mX6_findFrom_L49 v_p1 r7 j9) F ((0 : Int32), x5.2))))
noncomputable def mX6_findFrom (F : Nat) (v_t : WY) (v_p1 : MZ) (g2 : Int32) : Option WY :=
  (mJ7_fill_53178 F 36 v_t.2.2.2.1 (-1 : Int32)).bind fun r1 => (mX6_reachCell ((0 : Int32), v_t.2.1, v_t.2.2.1, r1, v_t.2.2.2.2) v_p1 g2 (-1 : Int32)).bind fun r2 => jn mX6_findFrom_K106 (fun j4 => lpr (mX6_findFrom_L22 F v_p1 j4) F ((0 : Int32), r2))

noncomputable def mX3_setOpen (v_t : MZ) (g1 : Int32) (g2 : Int32) (g3 : Int32) : Option nF :=
  (mX7_at 36 v_t.2.2.2.1 g1).bind fun r1 => jn (fun x2 : Int32 => (mX7_put 36 v_t.2.2.2.1 g1 x2).bind fun r4 => some r4) (fun j3 => if g3 = 0 then (j3 (r1 &&& (((1 : Int32) <<< (g2 &&& 31)) ^^^ (-1 : Int32)))) else (j3 ((r1 &&& (((1 : Int32) <<< (g2 &&& 31)) ^^^ (-1 : Int32))) ||| ((1 : Int32) <<< (g2 &&& 31)))))

noncomputable def mX3_setPassage (v_t : MZ) (g1 : Int32) (g2 : Int32) (g3 : Int32) : Option nF :=
  (mX3_beside v_t g1 g2).bind fun r1 => jn (fun x2 : nF => some x2) (fun j3 => if r1 = (-1 : Int32) then (j3 v_t.2.2.2.1) else ((mX3_setOpen v_t g1 g2 g3).bind fun r4 => gd (nz (4 : Int32)) ((mX3_setOpen (v_t.1, v_t.2.1, v_t.2.2.1, r4, v_t.2.2.2.2.1, v_t.2.2.2.2.2) r1 ((g2 + (2 : Int32)) - (g2 + (2 : Int32)) / (4 : Int32) * (4 : Int32)) g3).bind fun r5 => j3 r5)))

noncomputable def mJ6_bitCount_0f7a4 (g0 : Int32) : Option Int32 :=
  some ((((((((g0 - (((g0.toUInt32 >>> ((1 : Int32).toUInt32 &&& Int32.toUInt32 31)).toInt32) &&& (1431655765 : Int32))) &&& (858993459 : Int32)) + ((((g0 - (((g0.toUInt32 >>> ((1 : Int32).toUInt32 &&& Int32.toUInt32 31)).toInt32) &&& (1431655765 : Int32))).toUInt32 >>> ((2 : Int32).toUInt32 &&& Int32.toUInt32 31)).toInt32) &&& (858993459 : Int32))) + (((((g0 - (((g0.toUInt32 >>> ((1 : Int32).toUInt32 &&& Int32.toUInt32 31)).toInt32) &&& (1431655765 : Int32))) &&& (858993459 : Int32)) + ((((g0 - (((g0.toUInt32 >>> ((1 : Int32).toUInt32 &&& Int32.toUInt32 31)).toInt32) &&& (1431655765 : Int32))).toUInt32 >>> ((2 : Int32).toUInt32 &&& Int32.toUInt32 31)).toInt32) &&& (858993459 : Int32))).toUInt32 >>> ((4 : Int32).toUInt32 &&& Int32.toUInt32 31)).toInt32)) &&& (252645135 : Int32)) + (((((((g0 - (((g0.toUInt32 >>> ((1 : Int32).toUInt32 &&& Int32.toUInt32 31)).toInt32) &&& (1431655765 : Int32))) &&& (858993459 : Int32)) + ((((g0 - (((g0.toUInt32 >>> ((1 : Int32).toUInt32 &&& Int32.toUInt32 31)).toInt32) &&& (1431655765 : Int32))).toUInt32 >>> ((2 : Int32).toUInt32 &&& Int32.toUInt32 31)).toInt32) &&& (858993459 : Int32))) + (((((g0 - (((g0.toUInt32 >>> ((1 : Int32).toUInt32 &&& Int32.toUInt32 31)).toInt32) &&& (1431655765 : Int32))) &&& (858993459 : Int32)) + ((((g0 - (((g0.toUInt32 >>> ((1 : Int32).toUInt32 &&& Int32.toUInt32 31)).toInt32) &&& (1431655765 : Int32))).toUInt32 >>> ((2 : Int32).toUInt32 &&& Int32.toUInt32 31)).toInt32) &&& (858993459 : Int32))).toUInt32 >>> ((4 : Int32).toUInt32 &&& Int32.toUInt32 31)).toInt32)) &&& (252645135 : Int32)).toUInt32 >>> ((8 : Int32).toUInt32 &&& Int32.toUInt32 31)).toInt32)) + ((((((((g0 - (((g0.toUInt32 >>> ((1 : Int32).toUInt32 &&& Int32.toUInt32 31)).toInt32) &&& (1431655765 : Int32))) &&& (858993459 : Int32)) + ((((g0 - (((g0.toUInt32 >>> ((1 : Int32).toUInt32 &&& Int32.toUInt32 31)).toInt32) &&& (1431655765 : Int32))).toUInt32 >>> ((2 : Int32).toUInt32 &&& Int32.toUInt32 31)).toInt32) &&& (858993459 : Int32))) + (((((g0 - (((g0.toUInt32 >>> ((1 : Int32).toUInt32 &&& Int32.toUInt32 31)).toInt32) &&& (1431655765 : Int32))) &&& (858993459 : Int32)) + ((((g0 - (((g0.toUInt32 >>> ((1 : Int32).toUInt32 &&& Int32.toUInt32 31)).toInt32) &&& (1431655765 : Int32))).toUInt32 >>> ((2 : Int32).toUInt32 &&& Int32.toUInt32 31)).toInt32) &&& (858993459 : Int32))).toUInt32 >>> ((4 : Int32).toUInt32 &&& Int32.toUInt32 31)).toInt32)) &&& (252645135 : Int32)) + (((((((g0 - (((g0.toUInt32 >>> ((1 : Int32).toUInt32 &&& Int32.toUInt32 31)).toInt32) &&& (1431655765 : Int32))) &&& (858993459 : Int32)) + ((((g0 - (((g0.toUInt32 >>> ((1 : Int32).toUInt32 &&& Int32.toUInt32 31)).toInt32) &&& (1431655765 : Int32))).toUInt32 >>> ((2 : Int32).toUInt32 &&& Int32.toUInt32 31)).toInt32) &&& (858993459 : Int32))) + (((((g0 - (((g0.toUInt32 >>> ((1 : Int32).toUInt32 &&& Int32.toUInt32 31)).toInt32) &&& (1431655765 : Int32))) &&& (858993459 : Int32)) + ((((g0 - (((g0.toUInt32 >>> ((1 : Int32).toUInt32 &&& Int32.toUInt32 31)).toInt32) &&& (1431655765 : Int32))).toUInt32 >>> ((2 : Int32).toUInt32 &&& Int32.toUInt32 31)).toInt32) &&& (858993459 : Int32))).toUInt32 >>> ((4 : Int32).toUInt32 &&& Int32.toUInt32 31)).toInt32)) &&& (252645135 : Int32)).toUInt32 >>> ((8 : Int32).toUInt32 &&& Int32.toUInt32 31)).toInt32)).toUInt32 >>> ((16 : Int32).toUInt32 &&& Int32.toUInt32 31)).toInt32)) &&& (63 : Int32))

noncomputable def mX3_passageCount_L4 (v_t : MZ) (self2 : (Int32 × Int32) → Option Int32) (x1 : (Int32 × Int32)) : Option Int32 :=
  (mX3_cells v_t).bind fun r3 => if r3 ≤ x1.2 then (gd (nz (2 : Int32)) (some (x1.1 / (2 : Int32)))) else ((mX7_at 36 v_t.2.2.2.1 x1.2).bind fun r4 => (mJ6_bitCount_0f7a4 r4).bind fun r5 => self2 (x1.1 + r5, x1.2 + (1 : Int32)))
noncomputable def mX3_passageCount (F : Nat) (v_t : MZ) : Option Int32 :=
  lpr (mX3_passageCount_L4 v_t) F ((0 : Int32), (0 : Int32))

noncomputable def mX3_parts (F : Nat) (v_t : MZ) : Option Int32 :=
  (mX3_cells v_t).bind fun r1 => (mX3_passageCount F v_t).bind fun r2 => some (r1 - r2)

noncomputable def mX7_carve (F : Nat) (v_o1 : MZ) (v_o3 : HS) (v_o5 : WY) (g1 : Int32) (g2 : Int32) : Option (Int32 × nF × HS × WY) :=
  (mX3_hasCell v_o1 g1).bind fun r1 => jn (fun x2 : Unit => some ((-1 : Int32), v_o1.2.2.2.1, v_o3, v_o5)) (fun j3 => if r1 = 0 then (j3 ()) else ((mX7_isDirection g2).bind fun r4 => if r4 = 0 then (j3 ()) else ((mX3_beside v_o1 g1 g2).bind fun r5 => if r5 = (-1 : Int32) then (some ((-2 : Int32), v_o1.2.2.2.1, v_o3, v_o5)) else ((mX6_findFrom F v_o5 v_o1 g1).bind fun r6 => (mX6_reach r6 r5).bind fun r7 => if r7 = 0 then ((mX2_push F v_o3 v_o1).bind fun r8 => (mX3_setPassage v_o1 g1 g2 (1 : Int32)).bind fun r9 => (mX3_parts F (v_o1.1, v_o1.2.1, v_o1.2.2.1, r9, v_o1.2.2.2.2.1, v_o1.2.2.2.2.2)).bind fun r10 => some (r10, r9, r8, r6)) else (some ((-2 : Int32), v_o1.2.2.2.1, v_o3, r6))))))

noncomputable def mX7_wall (F : Nat) (v_o1 : MZ) (v_o3 : HS) (g1 : Int32) (g2 : Int32) : Option (Int32 × nF × HS) :=
  (mX3_hasCell v_o1 g1).bind fun r1 => jn (fun x2 : Unit => some ((-1 : Int32), v_o1.2.2.2.1, v_o3)) (fun j3 => if r1 = 0 then (j3 ()) else ((mX7_isDirection g2).bind fun r4 => if r4 = 0 then (j3 ()) else ((mX3_hasPassage v_o1 g1 g2).bind fun r5 => if r5 = 0 then (some ((-2 : Int32), v_o1.2.2.2.1, v_o3)) else ((mX2_push F v_o3 v_o1).bind fun r6 => (mX3_setPassage v_o1 g1 g2 (0 : Int32)).bind fun r7 => (mX3_parts F (v_o1.1, v_o1.2.1, v_o1.2.2.1, r7, v_o1.2.2.2.2.1, v_o1.2.2.2.2.2)).bind fun r8 => some (r8, r7, r6)))))

noncomputable def mX7_isDoor (g0 : Int32) : Option Int32 :=
  jn (fun x1 : Int32 => gd (zb x1) (some x1)) (fun j2 => jn (fun x3 : Unit => j2 (0 : Int32)) (fun j4 => if g0 < 0 then (j4 ()) else (if (2 : Int32) ≤ g0 then (j4 ()) else (j2 (1 : Int32)))))

noncomputable def mX3_isDoorAt (v_t : MZ) (g1 : Int32) (g2 : Int32) (g3 : Int32) : Option Int32 :=
  (mX7_at 2 v_t.2.2.2.2.1 g1).bind fun r1 => jn (fun x2 : Int32 => gd (zb x2) (some x2)) (fun j3 => jn (fun x4 : Unit => j3 (0 : Int32)) (fun j5 => if r1 = g2 then ((mX7_at 2 v_t.2.2.2.2.2 g1).bind fun r6 => if r6 = g3 then (j3 (1 : Int32)) else (j5 ())) else (j5 ())))

noncomputable def mX7_door (F : Nat) (v_o1 : MZ) (v_o3 : HS) (g1 : Int32) (g2 : Int32) (g3 : Int32) : Option (Int32 × (nF × nF) × HS) :=
  (mX7_isDoor g1).bind fun r1 => jn (fun x2 : Unit => some ((-1 : Int32), (v_o1.2.2.2.2.1, v_o1.2.2.2.2.2), v_o3)) (fun j3 => if r1 = 0 then (j3 ()) else ((mX3_hasCell v_o1 g2).bind fun r4 => if r4 = 0 then (j3 ()) else ((mX7_isDirection g3).bind fun r5 => if r5 = 0 then (j3 ()) else (jn (fun x6 : Int32 => (mX3_beside v_o1 g2 g3).bind fun r8 => jn (fun x9 : Unit => some ((-2 : Int32), (v_o1.2.2.2.2.1, v_o1.2.2.2.2.2), v_o3)) (fun j10 => if r8 = (-1 : Int32) then ((mX3_isDoorAt v_o1 x6 g2 g3).bind fun r11 => if r11 = 0 then ((mX7_at 2 v_o1.2.2.2.2.1 g1).bind fun r12 => (mX2_push F v_o3 v_o1).bind fun r13 => (mX7_put 2 v_o1.2.2.2.2.1 g1 g2).bind fun r14 => (mX7_put 2 v_o1.2.2.2.2.2 g1 g3).bind fun r15 => some (r12, (r14, r15), r13)) else (j10 ())) else (j10 ()))) (fun j7 => if g1 = 0 then (j7 (1 : Int32)) else (j7 (0 : Int32)))))))

noncomputable def mX3_isWhole (F : Nat) (v_t : MZ) : Option Int32 :=
  (mX3_parts F v_t).bind fun r1 => jn (fun x2 : Int32 => gd (zb x2) (some x2)) (fun j3 => if r1 = (1 : Int32) then (j3 (1 : Int32)) else (j3 (0 : Int32)))

noncomputable def mX3_places (v_t : MZ) : Option Int32 :=
  (mX3_cells v_t).bind fun r1 => some ((2 : Int32) * r1)

noncomputable def mX3_lowEnd (g1 : Int32) : Option Int32 :=
  some (g1 >>> ((1 : Int32) &&& 31))

noncomputable def mX3_placeDirection (g0 : Int32) : Option Int32 :=
  jn (fun x1 : Int32 => some x1) (fun j2 => if (g0 &&& (1 : Int32)) = 0 then (j2 (1 : Int32)) else (j2 (2 : Int32)))

noncomputable def mX3_isOpenPlace (v_t : MZ) (g1 : Int32) : Option Int32 :=
  (mX3_lowEnd g1).bind fun r1 => (mX3_placeDirection g1).bind fun r2 => (mX3_hasPassage v_t r1 r2).bind fun r3 => gd (zb r3) (some r3)

noncomputable def mX3_highEnd (v_t : MZ) (g1 : Int32) : Option Int32 :=
  (mX3_lowEnd g1).bind fun r1 => (mX3_placeDirection g1).bind fun r2 => (mX3_beside v_t r1 r2).bind fun r3 => some r3

noncomputable def mX0_join_L22 (r1 : Int32) (r2 : Int32) (self4 : (Int32 × BD) → Option BD) (x3 : (Int32 × BD)) : Option BD :=
  if (Int32.ofNat 36) ≤ x3.1 then (some x3.2) else (gd (inb x3.1 36) (jn (fun x5 : BD => self4 (x3.1 + (1 : Int32), x5)) (fun j6 => if (x3.2 x3.1.toNatClampNeg) = r2 then (gd (inb x3.1 36) (j6 (upd x3.2 x3.1.toNatClampNeg r1))) else (j6 x3.2))))
noncomputable def mX0_join (F : Nat) (v_t : BD) (g1 : Int32) (g2 : Int32) : Option BD :=
  (mX7_at 36 v_t g1).bind fun r1 => (mX7_at 36 v_t g2).bind fun r2 => lpr (mX0_join_L22 r1 r2) F ((0 : Int32), v_t)

noncomputable def mX0_findParts_L26 (F : Nat) (v_p1 : MZ) (self4 : (Int32 × BD) → Option BD) (x3 : (Int32 × BD)) : Option BD :=
  (mX3_places v_p1).bind fun r5 => if r5 ≤ x3.1 then (some x3.2) else ((mX3_isOpenPlace v_p1 x3.1).bind fun r6 => jn (fun x7 : BD => self4 (x3.1 + (1 : Int32), x7)) (fun j8 => if r6 = 0 then (j8 x3.2) else ((mX3_lowEnd x3.1).bind fun r9 => (mX3_highEnd v_p1 x3.1).bind fun r10 => (mX0_join F x3.2 r9 r10).bind fun r11 => j8 r11)))
noncomputable def mX0_findParts_K24 (F : Nat) (v_p1 : MZ) (x1 : BD) : Option BD :=
  lpr (mX0_findParts_L26 F v_p1) F ((0 : Int32), x1)
noncomputable def mX0_findParts_L2 (j2 : BD → Option BD) (self13 : (Int32 × BD) → Option BD) (x12 : (Int32 × BD)) : Option BD :=
  if (Int32.ofNat 36) ≤ x12.1 then (j2 x12.2) else (gd (inb x12.1 36) (self13 (x12.1 + (1 : Int32), (upd x12.2 x12.1.toNatClampNeg x12.1))))
noncomputable def mX0_findParts (F : Nat) (v_t : BD) (v_p1 : MZ) : Option BD :=
  jn (mX0_findParts_K24 F v_p1) (fun j2 => lpr (mX0_findParts_L2 j2) F ((0 : Int32), v_t))

noncomputable def mX0_darkestPlace_L7 (v_t : BD) (v_p1 : MZ) (self2 : (Int32 × Int32 × Int32) → Option Int32) (x1 : (Int32 × Int32 × Int32)) : Option Int32 :=
  (mX3_places v_p1).bind fun r3 => if r3 ≤ x1.2.2 then (some x1.1) else ((mX3_lowEnd x1.2.2).bind fun r4 => (mX3_highEnd v_p1 x1.2.2).bind fun r5 => jn (fun x6 : (Int32 × Int32) => self2 (x6.1, x6.2, x1.2.2 + (1 : Int32))) (fun j7 => if r5 = (-1 : Int32) then (j7 (x1.1, x1.2.1)) else ((mX7_at 36 v_t r4).bind fun r8 => (mX7_at 36 v_t r5).bind fun r9 => if r8 = r9 then (j7 (x1.1, x1.2.1)) else ((mX7_at 36 v_p1.2.2.1 r4).bind fun r10 => (mX7_at 36 v_p1.2.2.1 r5).bind fun r11 => if (r10 + r11) ≤ x1.2.1 then (j7 (x1.1, x1.2.1)) else (j7 (x1.2.2, r10 + r11))))))
noncomputable def mX0_darkestPlace (F : Nat) (v_t : BD) (v_p1 : MZ) : Option Int32 :=
  lpr (mX0_darkestPlace_L7 v_t v_p1) F ((-1 : Int32), (-1 : Int32), (0 : Int32))

noncomputable def mX3_setPlace (v_t : MZ) (g1 : Int32) (g2 : Int32) : Option nF :=
  (mX3_lowEnd g1).bind fun r1 => (mX3_placeDirection g1).bind fun r2 => (mX3_setPassage v_t r1 r2 g2).bind fun r3 => some r3

noncomputable def mX0_joinAllParts_K63 (x2 : (Int32 × BD × nF)) : Option (Int32 × BD × nF) :=
  some (x2.1, x2.2.1, x2.2.2)
noncomputable def mX0_joinAllParts_K28 (j3 : (Int32 × BD × nF) → Option (Int32 × BD × nF)) (x4 : (Int32 × BD × nF)) : Option (Int32 × BD × nF) :=
  j3 (x4.1, x4.2.1, x4.2.2)
noncomputable def mX0_joinAllParts_L9 (F : Nat) (v_p1 : MZ) (j3 : (Int32 × BD × nF) → Option (Int32 × BD × nF)) (j5 : (Int32 × BD × nF) → Option (Int32 × BD × nF)) (self7 : (Int32 × Int32 × BD × nF) → Option (Int32 × BD × nF)) (x6 : (Int32 × Int32 × BD × nF)) : Option (Int32 × BD × nF) :=
  if (36 : Int32) ≤ x6.2.1 then (j3 (x6.1, x6.2.2.1, x6.2.2.2)) else ((mX0_darkestPlace F x6.2.2.1 (v_p1.1, v_p1.2.1, v_p1.2.2.1, x6.2.2.2, v_p1.2.2.2.2.1, v_p1.2.2.2.2.2)).bind fun r8 => if r8 = (-1 : Int32) then (j5 (x6.1, x6.2.2.1, x6.2.2.2)) else ((mX3_setPlace (v_p1.1, v_p1.2.1, v_p1.2.2.1, x6.2.2.2, v_p1.2.2.2.2.1, v_p1.2.2.2.2.2) r8 (1 : Int32)).bind fun r9 => (mX3_lowEnd r8).bind fun r10 => (mX3_highEnd (v_p1.1, v_p1.2.1, v_p1.2.2.1, r9, v_p1.2.2.2.2.1, v_p1.2.2.2.2.2) r8).bind fun r11 => (mX0_join F x6.2.2.1 r10 r11).bind fun r12 => self7 (x6.1 + (1 : Int32), x6.2.1 + (1 : Int32), r12, r9)))
noncomputable def mX0_joinAllParts (F : Nat) (v_t : BD) (v_p1 : MZ) : Option (Int32 × BD × nF) :=
  (mX0_findParts F v_t v_p1).bind fun r1 => jn mX0_joinAllParts_K63 (fun j3 => jn (mX0_joinAllParts_K28 j3) (fun j5 => lpr (mX0_joinAllParts_L9 F v_p1 j3 j5) F ((0 : Int32), (0 : Int32), r1, v_p1.2.2.2.1)))

noncomputable def mX7_build (F : Nat) (v_o1 : MZ) (v_o3 : HS) (v_o9 : BD) : Option (Int32 × nF × HS × BD) :=
  (mX3_isWhole F v_o1).bind fun r1 => if r1 = 0 then ((mX2_push F v_o3 v_o1).bind fun r2 => (mX0_joinAllParts F v_o9 v_o1).bind fun r3 => some (r3.1, r3.2.2, r2, r3.2.1)) else (some ((-2 : Int32), v_o1.2.2.2.1, v_o3, v_o9))

noncomputable def mX3_entryCell (v_t : MZ) : Option Int32 :=
  (mX7_at 2 v_t.2.2.2.2.1 (0 : Int32)).bind fun r1 => some r1

noncomputable def mX3_exitCell (v_t : MZ) : Option Int32 :=
  (mX7_at 2 v_t.2.2.2.2.1 (1 : Int32)).bind fun r1 => some r1

noncomputable def mX3_toneSum_L4 (v_t : MZ) (self2 : (Int32 × Int32) → Option Int32) (x1 : (Int32 × Int32)) : Option Int32 :=
  (mX3_cells v_t).bind fun r3 => if r3 ≤ x1.2 then (some x1.1) else ((mX7_at 36 v_t.2.2.1 x1.2).bind fun r4 => self2 (x1.1 + r4, x1.2 + (1 : Int32)))
noncomputable def mX3_toneSum (F : Nat) (v_t : MZ) : Option Int32 :=
  lpr (mX3_toneSum_L4 v_t) F ((0 : Int32), (0 : Int32))

noncomputable def mX1_cut_L59 (v_p3 : WY) (self10 : (Int32 × nF) → Option nF) (x9 : (Int32 × nF)) : Option nF :=
  if v_p3.1 ≤ x9.1 then (some x9.2) else ((mX7_at 36 v_p3.2.1 x9.1).bind fun r11 => (mX7_at 36 v_p3.2.2.1 r11).bind fun r12 => (mX7_at 36 x9.2 r12).bind fun r13 => jn (fun x14 : nF => self10 (x9.1 + (1 : Int32), x14)) (fun j15 => if r13 = (1 : Int32) then ((mX7_put 36 x9.2 r11 (1 : Int32)).bind fun r16 => j15 r16) else (j15 x9.2)))
noncomputable def mX1_cut (F : Nat) (v_t : EX) (v_p1 : MZ) (v_p3 : WY) (g2 : Int32) : Option nF :=
  (mX3_lowEnd g2).bind fun r1 => (mX3_highEnd v_p1 g2).bind fun r2 => (mX6_lengthTo v_p3 r1).bind fun r3 => (mX6_lengthTo v_p3 r2).bind fun r4 => jn (fun x5 : Int32 => (mJ7_fill_53178 F 36 v_t.2.2.2.2.2 (0 : Int32)).bind fun r7 => (mX7_put 36 r7 x5 (1 : Int32)).bind fun r8 => lpr (mX1_cut_L59 v_p3) F ((1 : Int32), r8)) (fun j6 => if r3 ≤ r4 then (j6 r2) else (j6 r1))

noncomputable def mX1_findMade_L25 (v_t : EX) (v_p1 : MZ) (v_p3 : WY) (v_p4 : WY) (g2 : Int32) (x3 : Int32) (self6 : (Int32 × Int32 × Int32 × Int32) → Option (Int32 × Int32 × Int32)) (x5 : (Int32 × Int32 × Int32 × Int32)) : Option (Int32 × Int32 × Int32) :=
  (mX3_places v_p1).bind fun r7 => if r7 ≤ x5.1 then (some (x5.2.1, x5.2.2.1, x5.2.2.2)) else ((mX3_lowEnd x5.1).bind fun r8 => (mX3_highEnd v_p1 x5.1).bind fun r9 => jn (fun x10 : (Int32 × Int32 × Int32) => self6 (x5.1 + (1 : Int32), x10.1, x10.2.1, x10.2.2)) (fun j11 => if r9 = (-1 : Int32) then (j11 (x5.2.1, x5.2.2.1, x5.2.2.2)) else ((mX3_isOpenPlace v_p1 x5.1).bind fun r12 => if r12 = 0 then ((mX7_at 36 v_t.2.2.2.2.2 r8).bind fun r13 => (mX7_at 36 v_t.2.2.2.2.2 r9).bind fun r14 => if r13 = r14 then (j11 (x5.2.1, x5.2.2.1, x5.2.2.2)) else ((mX7_at 36 v_t.2.2.2.2.2 r8).bind fun r15 => jn (fun x16 : Int32 => jn (fun x18 : Int32 => jn (fun x20 : Int32 => jn (fun x22 : Unit => j11 (g2, x5.1, x20)) (fun j23 => if x5.2.2.1 = (-1 : Int32) then (j23 ()) else (if x5.2.2.2 ≤ x20 then (j11 (x5.2.1, x5.2.2.1, x5.2.2.2)) else (j23 ())))) (fun j21 => if x3 = 0 then (j21 v_t.2.2.1) else ((mX7_at 36 v_p3.2.2.2.2 x16).bind fun r24 => (mX7_at 36 v_p4.2.2.2.2 x18).bind fun r25 => j21 ((v_t.2.2.2.2.1 + r24) + r25)))) (fun j19 => if x16 = r8 then (j19 r9) else (j19 r8))) (fun j17 => if r15 = 0 then (j17 r8) else (j17 r9)))) else (j11 (x5.2.1, x5.2.2.1, x5.2.2.2)))))
noncomputable def mX1_findMade (F : Nat) (v_t : EX) (v_p1 : MZ) (v_p3 : WY) (v_p4 : WY) (g2 : Int32) : Option (Int32 × Int32 × Int32) :=
  (mX3_exitCell v_p1).bind fun r1 => (mX7_at 36 v_t.2.2.2.2.2 r1).bind fun r2 => jn (fun x3 : Int32 => lpr (mX1_findMade_L25 v_t v_p1 v_p3 v_p4 g2 x3) F ((0 : Int32), v_t.1, v_t.2.1, v_t.2.2.2.1)) (fun j4 => if r2 = (1 : Int32) then (j4 (1 : Int32)) else (j4 (0 : Int32)))

noncomputable def mX1_find_L67 (F : Nat) (v_p1 : MZ) (r2 : WY) (r4 : WY) (r5 : Int32) (r7 : Int32) (self9 : (Int32 × Int32 × Int32 × Int32 × nF) → Option (EX × WY × WY)) (x8 : (Int32 × Int32 × Int32 × Int32 × nF)) : Option (EX × WY × WY) :=
  (mX3_places v_p1).bind fun r10 => if r10 ≤ x8.1 then (some ((x8.2.1, x8.2.2.1, r5 + r7, x8.2.2.2.1, r5, x8.2.2.2.2), r2, r4)) else ((mX3_isOpenPlace v_p1 x8.1).bind fun r11 => jn (fun x12 : (Int32 × Int32 × Int32 × nF) => self9 (x8.1 + (1 : Int32), x12.1, x12.2.1, x12.2.2.1, x12.2.2.2)) (fun j13 => if r11 = 0 then (j13 (x8.2.1, x8.2.2.1, x8.2.2.2.1, x8.2.2.2.2)) else ((mX1_cut F (x8.2.1, x8.2.2.1, r5 + r7, x8.2.2.2.1, r5, x8.2.2.2.2) v_p1 r2 x8.1).bind fun r14 => (mX1_findMade F (x8.2.1, x8.2.2.1, r5 + r7, x8.2.2.2.1, r5, r14) v_p1 r2 r4 x8.1).bind fun r15 => j13 (r15.1, r15.2.1, r15.2.2, r14))))
noncomputable def mX1_find (F : Nat) (v_t : EX) (v_p1 : MZ) (v_p2 : WY) (v_p3 : WY) : Option (EX × WY × WY) :=
  (mX3_entryCell v_p1).bind fun r1 => (mX6_findFrom F v_p2 v_p1 r1).bind fun r2 => (mX3_exitCell v_p1).bind fun r3 => (mX6_findFrom F v_p3 v_p1 r3).bind fun r4 => (mX3_toneSum F v_p1).bind fun r5 => (mX3_exitCell v_p1).bind fun r6 => (mX7_at 36 r2.2.2.2.2 r6).bind fun r7 => lpr (mX1_find_L67 F v_p1 r2 r4 r5 r7) F ((0 : Int32), (-1 : Int32), (-1 : Int32), r5 + r7, v_t.2.2.2.2.2)

noncomputable def mX7_findBetterExchange (F : Nat) (v_o1 : MZ) (v_o6 : WY) (v_o7 : WY) (v_o10 : EX) : Option (Int32 × WY × WY × EX) :=
  (mX1_find F v_o10 v_o1 v_o6 v_o7).bind fun r1 => jn (fun x2 : Int32 => gd (zb x2) (some (x2, r1.2.1, r1.2.2, r1.1))) (fun j3 => jn (fun x4 : Unit => j3 (0 : Int32)) (fun j5 => if r1.1.2.1 = (-1 : Int32) then (j5 ()) else (if r1.1.2.2.1 ≤ r1.1.2.2.2.1 then (j5 ()) else (j3 (1 : Int32)))))

noncomputable def mX1_apply (v_t : EX) (v_p1 : MZ) : Option nF :=
  (mX3_setPlace v_p1 v_t.1 (0 : Int32)).bind fun r1 => (mX3_setPlace (v_p1.1, v_p1.2.1, v_p1.2.2.1, r1, v_p1.2.2.2.2.1, v_p1.2.2.2.2.2) v_t.2.1 (1 : Int32)).bind fun r2 => some r2

noncomputable def mX7_exchange (F : Nat) (v_o1 : MZ) (v_o3 : HS) (v_o6 : WY) (v_o7 : WY) (v_o10 : EX) : Option (Int32 × nF × HS × WY × WY × EX) :=
  (mX3_isWhole F v_o1).bind fun r1 => jn (fun x2 : (WY × WY × EX) => some ((-2 : Int32), v_o1.2.2.2.1, v_o3, x2.1, x2.2.1, x2.2.2)) (fun j3 => if r1 = 0 then (j3 (v_o6, v_o7, v_o10)) else ((mX7_findBetterExchange F v_o1 v_o6 v_o7 v_o10).bind fun r4 => if r4.1 = 0 then (j3 (r4.2.1, r4.2.2.1, r4.2.2.2)) else ((mX2_push F v_o3 v_o1).bind fun r5 => (mX1_apply r4.2.2.2 v_o1).bind fun r6 => some (r4.2.2.2.2.2.2.1, r6, r5, r4.2.1, r4.2.2.1, r4.2.2.2))))

noncomputable def mX7_improve_K59 (r2 : HS) (x3 : (Int32 × nF × WY × WY × EX)) : Option (Int32 × nF × HS × WY × WY × EX) :=
  some (x3.1, x3.2.1, r2, x3.2.2.1, x3.2.2.2.1, x3.2.2.2.2)
noncomputable def mX7_improve_L30 (F : Nat) (v_o1 : MZ) (j4 : (Int32 × nF × WY × WY × EX) → Option (Int32 × nF × HS × WY × WY × EX)) (self6 : (Int32 × nF × WY × WY × EX) → Option (Int32 × nF × HS × WY × WY × EX)) (x5 : (Int32 × nF × WY × WY × EX)) : Option (Int32 × nF × HS × WY × WY × EX) :=
  if (324 : Int32) ≤ x5.1 then (j4 (x5.1, x5.2.1, x5.2.2.1, x5.2.2.2.1, x5.2.2.2.2)) else ((mX7_findBetterExchange F (v_o1.1, v_o1.2.1, v_o1.2.2.1, x5.2.1, v_o1.2.2.2.2.1, v_o1.2.2.2.2.2) x5.2.2.1 x5.2.2.2.1 x5.2.2.2.2).bind fun r7 => if r7.1 = 0 then (j4 (x5.1, x5.2.1, r7.2.1, r7.2.2.1, r7.2.2.2)) else ((mX1_apply r7.2.2.2 (v_o1.1, v_o1.2.1, v_o1.2.2.1, x5.2.1, v_o1.2.2.2.2.1, v_o1.2.2.2.2.2)).bind fun r8 => self6 (x5.1 + (1 : Int32), r8, r7.2.1, r7.2.2.1, r7.2.2.2)))
noncomputable def mX7_improve (F : Nat) (v_o1 : MZ) (v_o3 : HS) (v_o6 : WY) (v_o7 : WY) (v_o10 : EX) : Option (Int32 × nF × HS × WY × WY × EX) :=
  (mX3_isWhole F v_o1).bind fun r1 => if r1 = 0 then (some ((-2 : Int32), v_o1.2.2.2.1, v_o3, v_o6, v_o7, v_o10)) else ((mX2_push F v_o3 v_o1).bind fun r2 => jn (mX7_improve_K59 r2) (fun j4 => lpr (mX7_improve_L30 F v_o1 j4) F ((0 : Int32), v_o1.2.2.2.1, v_o6, v_o7, v_o10)))

noncomputable def mX5_opposite (g0 : Int32) : Option Int32 :=
  gd (nz (4 : Int32)) (some ((g0 + (2 : Int32)) - (g0 + (2 : Int32)) / (4 : Int32) * (4 : Int32)))

noncomputable def mX5_come (v_t : WK) (g1 : Int32) (g2 : Int32) : Option (Int32 × nF × nF) :=
  (mX7_at 36 v_t.2.2.2 g1).bind fun r1 => (mX7_put 36 v_t.2.2.2 g1 (r1 ||| ((1 : Int32) <<< (g2 &&& 31)))).bind fun r2 => (mX7_at 36 v_t.2.2.1 g1).bind fun r3 => (mX7_put 36 v_t.2.2.1 g1 (r3 + (1 : Int32))).bind fun r4 => some (v_t.2.1 + (1 : Int32), r4, r2)

noncomputable def mX5_turn_K39 (x1 : Int32) : Option Int32 :=
  some x1
noncomputable def mX5_turn_L2 (v_p0 : MZ) (g1 : Int32) (g2 : Int32) (j2 : Int32 → Option Int32) (self4 : Int32 → Option Int32) (x3 : Int32) : Option Int32 :=
  if (4 : Int32) ≤ x3 then (some (-1 : Int32)) else (gd (nz (4 : Int32)) ((mX3_hasPassage v_p0 g1 ((((g2 + (1 : Int32)) + (4 : Int32)) - x3) - (((g2 + (1 : Int32)) + (4 : Int32)) - x3) / (4 : Int32) * (4 : Int32))).bind fun r5 => if r5 = 0 then ((mX3_isDoorAt v_p0 (1 : Int32) g1 ((((g2 + (1 : Int32)) + (4 : Int32)) - x3) - (((g2 + (1 : Int32)) + (4 : Int32)) - x3) / (4 : Int32) * (4 : Int32))).bind fun r6 => if r6 = 0 then (self4 (x3 + (1 : Int32))) else (j2 ((((g2 + (1 : Int32)) + (4 : Int32)) - x3) - (((g2 + (1 : Int32)) + (4 : Int32)) - x3) / (4 : Int32) * (4 : Int32)))) else (j2 ((((g2 + (1 : Int32)) + (4 : Int32)) - x3) - (((g2 + (1 : Int32)) + (4 : Int32)) - x3) / (4 : Int32) * (4 : Int32)))))
noncomputable def mX5_turn (F : Nat) (v_p0 : MZ) (g1 : Int32) (g2 : Int32) : Option Int32 :=
  jn mX5_turn_K39 (fun j2 => lpr (mX5_turn_L2 v_p0 g1 g2 j2) F (0 : Int32))

noncomputable def mX5_take_L46 (F : Nat) (v_p1 : MZ) (self7 : (Int32 × Int32 × Int32 × Int32 × nF × nF) → Option WK) (x6 : (Int32 × Int32 × Int32 × Int32 × nF × nF)) : Option WK :=
  if (144 : Int32) < x6.2.2.1 then (some ((1 : Int32), x6.2.2.2.1, x6.2.2.2.2.1, x6.2.2.2.2.2)) else ((mX7_at 36 x6.2.2.2.2.2 x6.1).bind fun r8 => if (r8 &&& ((1 : Int32) <<< (x6.2.1 &&& 31))) = 0 then ((mX5_come ((1 : Int32), x6.2.2.2.1, x6.2.2.2.2.1, x6.2.2.2.2.2) x6.1 x6.2.1).bind fun r9 => (mX5_turn F v_p1 x6.1 x6.2.1).bind fun r10 => if r10 = (-1 : Int32) then (some ((1 : Int32), r9.1, r9.2.1, r9.2.2)) else ((mX3_isDoorAt v_p1 (1 : Int32) x6.1 r10).bind fun r11 => if r11 = 0 then ((mX3_beside v_p1 x6.1 r10).bind fun r12 => self7 (r12, r10, x6.2.2.1 + (1 : Int32), r9.1, r9.2.1, r9.2.2)) else (gd (zb (0 : Int32)) (some ((0 : Int32), r9.1, r9.2.1, r9.2.2))))) else (some ((1 : Int32), x6.2.2.2.1, x6.2.2.2.2.1, x6.2.2.2.2.2)))
noncomputable def mX5_take (F : Nat) (v_t : WK) (v_p1 : MZ) : Option WK :=
  (mJ7_fill_53178 F 36 v_t.2.2.1 (0 : Int32)).bind fun r1 => (mJ7_fill_53178 F 36 v_t.2.2.2 (0 : Int32)).bind fun r2 => gd (zb (1 : Int32)) ((mX3_entryCell v_p1).bind fun r3 => (mX7_at 2 v_p1.2.2.2.2.2 (0 : Int32)).bind fun r4 => (mX5_opposite r4).bind fun r5 => lpr (mX5_take_L46 F v_p1) F (r3, r5, (0 : Int32), (0 : Int32), r1, r2))

noncomputable def mX7_hasWay (F : Nat) (v_o1 : MZ) (v_o7 : WY) : Option (Int32 × WY) :=
  (mX3_exitCell v_o1).bind fun r1 => (mX6_findFrom F v_o7 v_o1 r1).bind fun r2 => (mX3_entryCell v_o1).bind fun r3 => (mX6_reach r2 r3).bind fun r4 => gd (zb r4) (some (r4, r2))

noncomputable def mX7_isOnWay (F : Nat) (v_o1 : MZ) (v_o6 : WY) (v_o7 : WY) (g1 : Int32) : Option (Int32 × WY × WY) :=
  (mX7_hasWay F v_o1 v_o7).bind fun r1 => jn (fun x2 : Unit => gd (zb (0 : Int32)) (some ((0 : Int32), v_o6, r1.2))) (fun j3 => if r1.1 = 0 then (j3 ()) else ((mX6_reach r1.2 g1).bind fun r4 => if r4 = 0 then (j3 ()) else ((mX3_entryCell v_o1).bind fun r5 => (mX6_findFrom F v_o6 v_o1 r5).bind fun r6 => (mX6_lengthTo r6 g1).bind fun r7 => (mX6_lengthTo r1.2 g1).bind fun r8 => (mX3_entryCell v_o1).bind fun r9 => (mX6_lengthTo r1.2 r9).bind fun r10 => jn (fun x11 : Int32 => gd (zb x11) (some (x11, r6, r1.2))) (fun j12 => if (r7 + r8) = r10 then (j12 (1 : Int32)) else (j12 (0 : Int32))))))

noncomputable def mX7_between (F : Nat) (v_o1 : MZ) (v_o5 : WY) (g1 : Int32) (g2 : Int32) : Option (Int32 × WY) :=
  (mX3_hasCell v_o1 g1).bind fun r1 => jn (fun x2 : Unit => some ((-1 : Int32), v_o5)) (fun j3 => if r1 = 0 then (j3 ()) else ((mX3_hasCell v_o1 g2).bind fun r4 => if r4 = 0 then (j3 ()) else ((mX6_findFrom F v_o5 v_o1 g1).bind fun r5 => (mX6_reach r5 g2).bind fun r6 => jn (fun x7 : Int32 => some (x7, r5)) (fun j8 => if r6 = 0 then (j8 (-4 : Int32)) else ((mX6_lengthTo r5 g2).bind fun r9 => j8 r9)))))

noncomputable def mX6_lowestCell_L11 (v_t : WY) (self3 : (Int32 × Int32) → Option Int32) (x2 : (Int32 × Int32)) : Option Int32 :=
  if v_t.1 ≤ x2.2 then (some x2.1) else ((mX7_at 36 v_t.2.1 x2.2).bind fun r4 => self3 ((if r4 < x2.1 then r4 else x2.1), x2.2 + (1 : Int32)))
noncomputable def mX6_lowestCell (F : Nat) (v_t : WY) : Option Int32 :=
  (mX7_at 36 v_t.2.1 (0 : Int32)).bind fun r1 => lpr (mX6_lowestCell_L11 v_t) F (r1, (1 : Int32))

noncomputable def mX7_cellOf (F : Nat) (v_o1 : MZ) (v_o5 : WY) (v_o6 : WY) (v_o7 : WY) (v_o8 : WK) (g1 : Int32) (g2 : Int32) : Option (Int32 × WY × WY × WY × WK) :=
  (mX3_hasCell v_o1 g1).bind fun r1 => if r1 = 0 then (some ((-1 : Int32), v_o5, v_o6, v_o7, v_o8)) else (if g2 = (0 : Int32) then ((mX7_at 36 v_o1.2.2.1 g1).bind fun r3 => some (r3, v_o5, v_o6, v_o7, v_o8)) else if g2 = (1 : Int32) then ((mX7_at 36 v_o1.2.2.2.1 g1).bind fun r5 => some (r5, v_o5, v_o6, v_o7, v_o8)) else if g2 = (2 : Int32) then ((mX6_findFrom F v_o5 v_o1 g1).bind fun r7 => (mX6_lowestCell F r7).bind fun r8 => some (r8, r7, v_o6, v_o7, v_o8)) else if g2 = (3 : Int32) then ((mX6_findFrom F v_o5 v_o1 g1).bind fun r10 => some (r10.1, r10, v_o6, v_o7, v_o8)) else if g2 = (4 : Int32) then ((mX3_entryCell v_o1).bind fun r12 => (mX7_between F v_o1 v_o5 r12 g1).bind fun r13 => some (r13.1, r13.2, v_o6, v_o7, v_o8)) else if g2 = (5 : Int32) then ((mX7_isOnWay F v_o1 v_o6 v_o7 g1).bind fun r15 => jn (fun x16 : Int32 => some (x16, v_o5, r15.2.1, r15.2.2, v_o8)) (fun j17 => if r15.1 = 0 then (j17 (0 : Int32)) else (j17 (1 : Int32)))) else if g2 = (6 : Int32) then ((mX5_take F v_o8 v_o1).bind fun r19 => jn (fun x20 : Int32 => some (x20, v_o5, v_o6, v_o7, r19)) (fun j21 => if r19.1 = 0 then ((mX7_at 36 r19.2.2.1 g1).bind fun r22 => j21 r22) else (j21 (-4 : Int32)))) else (some ((-1 : Int32), v_o5, v_o6, v_o7, v_o8)))

noncomputable def mX7_doorOf (v_o1 : MZ) (g1 : Int32) (g2 : Int32) : Option Int32 :=
  (mX7_isDoor g1).bind fun r1 => if r1 = 0 then (some (-1 : Int32)) else (if g2 = (0 : Int32) then ((mX7_at 2 v_o1.2.2.2.2.1 g1).bind fun r3 => some r3) else if g2 = (1 : Int32) then ((mX7_at 2 v_o1.2.2.2.2.2 g1).bind fun r5 => some r5) else (some (-1 : Int32)))

noncomputable def mX3_deadEnds_L4 (v_t : MZ) (self2 : (Int32 × Int32) → Option Int32) (x1 : (Int32 × Int32)) : Option Int32 :=
  (mX3_cells v_t).bind fun r3 => if r3 ≤ x1.2 then (some x1.1) else ((mX7_at 36 v_t.2.2.2.1 x1.2).bind fun r4 => (mJ6_bitCount_0f7a4 r4).bind fun r5 => jn (fun x6 : Int32 => self2 (x6, x1.2 + (1 : Int32))) (fun j7 => if r5 = (1 : Int32) then (j7 (x1.1 + (1 : Int32))) else (j7 x1.1)))
noncomputable def mX3_deadEnds (F : Nat) (v_t : MZ) : Option Int32 :=
  lpr (mX3_deadEnds_L4 v_t) F ((0 : Int32), (0 : Int32))

noncomputable def mX7_count (F : Nat) (m_hasSnapshot : Int32) (v_o1 : MZ) (v_o3 : HS) (v_o4 : PT) (g1 : Int32) : Option Int32 :=
  if g1 = (0 : Int32) then (some v_o1.1) else if g1 = (1 : Int32) then (some v_o1.2.1) else if g1 = (2 : Int32) then ((mX3_passageCount F v_o1).bind fun r4 => some r4) else if g1 = (3 : Int32) then ((mX3_parts F v_o1).bind fun r6 => some r6) else if g1 = (4 : Int32) then ((mX3_isWhole F v_o1).bind fun r8 => jn (fun x9 : Int32 => some x9) (fun j10 => if r8 = 0 then (j10 (0 : Int32)) else (j10 (1 : Int32)))) else if g1 = (5 : Int32) then ((mX3_deadEnds F v_o1).bind fun r12 => some r12) else if g1 = (6 : Int32) then ((mX3_toneSum F v_o1).bind fun r14 => some r14) else if g1 = (7 : Int32) then (some v_o3.1) else if g1 = (8 : Int32) then (some v_o4.1) else if g1 = (9 : Int32) then (jn (fun x18 : Int32 => some x18) (fun j19 => if m_hasSnapshot = 0 then (j19 (0 : Int32)) else (j19 (1 : Int32)))) else (some (-1 : Int32))

noncomputable def mX7_way_L55 (g1 : Int32) (r2 : WY) (self7 : (Int32 × Int32) → Option (Int32 × WY)) (x6 : (Int32 × Int32)) : Option (Int32 × WY) :=
  if g1 ≤ x6.2 then (some (x6.1, r2)) else ((mX7_at 36 r2.2.2.1 x6.1).bind fun r8 => self7 (r8, x6.2 + (1 : Int32)))
noncomputable def mX7_way (F : Nat) (v_o1 : MZ) (v_o7 : WY) (g1 : Int32) : Option (Int32 × WY) :=
  if 0 ≤ g1 then ((mX3_exitCell v_o1).bind fun r1 => (mX6_findFrom F v_o7 v_o1 r1).bind fun r2 => (mX3_entryCell v_o1).bind fun r3 => (mX6_lengthTo r2 r3).bind fun r4 => if g1 ≤ r4 then ((mX3_entryCell v_o1).bind fun r5 => lpr (mX7_way_L55 g1 r2) F (r5, (0 : Int32))) else (some ((-4 : Int32), r2))) else (some ((-1 : Int32), v_o7))

noncomputable def mX7_wayTurns_L25 (v_o7 : WY) (r2 : Int32) (self4 : (Int32 × Int32 × Int32 × Int32) → Option Int32) (x3 : (Int32 × Int32 × Int32 × Int32)) : Option Int32 :=
  if r2 ≤ x3.2.2.2 then (some x3.2.1) else ((mX7_at 36 v_o7.2.2.1 x3.1).bind fun r5 => jn (fun x6 : Int32 => self4 (r5, x6, r5 - x3.1, x3.2.2.2 + (1 : Int32))) (fun j7 => if x3.2.2.2 ≤ 0 then (j7 x3.2.1) else (if (r5 - x3.1) = x3.2.2.1 then (j7 x3.2.1) else (j7 (x3.2.1 + (1 : Int32))))))
noncomputable def mX7_wayTurns (F : Nat) (v_o1 : MZ) (v_o7 : WY) : Option Int32 :=
  (mX3_entryCell v_o1).bind fun r1 => (mX6_lengthTo v_o7 r1).bind fun r2 => lpr (mX7_wayTurns_L25 v_o7 r2) F (r1, (0 : Int32), (0 : Int32), (0 : Int32))

noncomputable def mX5_faultOn_L4 (v_t : WK) (v_p1 : MZ) (self2 : (Int32 × Int32) → Option Int32) (x1 : (Int32 × Int32)) : Option Int32 :=
  (mX3_cells v_p1).bind fun r3 => if r3 ≤ x1.2 then (some x1.1) else ((mX7_at 36 v_t.2.2.1 x1.2).bind fun r4 => (mX7_at 36 v_p1.2.2.1 x1.2).bind fun r5 => self2 (x1.1 + (if 0 ≤ (r5 - (if (9 : Int32) < ((3 : Int32) * r4) then (9 : Int32) else ((3 : Int32) * r4))) then (r5 - (if (9 : Int32) < ((3 : Int32) * r4) then (9 : Int32) else ((3 : Int32) * r4))) else 0 - (r5 - (if (9 : Int32) < ((3 : Int32) * r4) then (9 : Int32) else ((3 : Int32) * r4)))), x1.2 + (1 : Int32)))
noncomputable def mX5_faultOn (F : Nat) (v_t : WK) (v_p1 : MZ) : Option Int32 :=
  lpr (mX5_faultOn_L4 v_t v_p1) F ((0 : Int32), (0 : Int32))

noncomputable def mX7_wayFault (F : Nat) (v_o1 : MZ) (v_o7 : WY) : Option (Int32 × WY) :=
  (mX3_toneSum F v_o1).bind fun r1 => (mX7_hasWay F v_o1 v_o7).bind fun r2 => jn (fun x3 : Int32 => some (x3, r2.2)) (fun j4 => if r2.1 = 0 then (j4 r1) else ((mX3_entryCell v_o1).bind fun r5 => (mX7_at 36 r2.2.2.2.2.2 r5).bind fun r6 => j4 (r1 + r6)))

noncomputable def mX7_drawn (F : Nat) (v_o1 : MZ) (v_o7 : WY) (v_o8 : WK) (g1 : Int32) : Option (Int32 × WY × WK) :=
  if g1 = (0 : Int32) then ((mX7_hasWay F v_o1 v_o7).bind fun r2 => jn (fun x3 : Int32 => some (x3, r2.2, v_o8)) (fun j4 => if r2.1 = 0 then (j4 (-4 : Int32)) else ((mX3_entryCell v_o1).bind fun r5 => (mX6_lengthTo r2.2 r5).bind fun r6 => j4 (r6 + (1 : Int32))))) else if g1 = (1 : Int32) then ((mX7_wayFault F v_o1 v_o7).bind fun r8 => some (r8.1, r8.2, v_o8)) else if g1 = (2 : Int32) then ((mX5_take F v_o8 v_o1).bind fun r10 => jn (fun x11 : Int32 => some (x11, v_o7, r10)) (fun j12 => if r10.1 = 0 then (j12 r10.2.1) else (j12 (-4 : Int32)))) else if g1 = (3 : Int32) then ((mX5_take F v_o8 v_o1).bind fun r14 => jn (fun x15 : Int32 => some (x15, v_o7, r14)) (fun j16 => if r14.1 = 0 then ((mX5_faultOn F r14 v_o1).bind fun r17 => j16 r17) else (j16 (-4 : Int32)))) else if g1 = (4 : Int32) then ((mX7_hasWay F v_o1 v_o7).bind fun r19 => jn (fun x20 : Int32 => some (x20, r19.2, v_o8)) (fun j21 => if r19.1 = 0 then (j21 (-4 : Int32)) else ((mX7_wayTurns F v_o1 r19.2).bind fun r22 => j21 r22))) else (some ((-1 : Int32), v_o7, v_o8))

noncomputable def mX7_choose (g0 : Int32) (g1 : Int32) (g2 : Int32) (g3 : Int32) : Option Int32 :=
  if g0 = 0 then (some g1) else (jn (fun x1 : Int32 => some x1) (fun j2 => if g0 = (1 : Int32) then (j2 g2) else (j2 g3)))

noncomputable def mX7_farthest_K107 (g1 : Int32) (x3 : (Int32 × Int32 × Int32 × WY)) : Option (Int32 × WY) :=
  jn (fun x5 : Int32 => some (x5, x3.2.2.2)) (fun j6 => if x3.2.2.1 = 0 then (j6 (-4 : Int32)) else ((mX7_choose g1 x3.1 x3.2.1 x3.2.2.1).bind fun r7 => j6 r7))
noncomputable def mX7_farthest_K101 (self9 : (Int32 × Int32 × Int32 × Int32 × WY) → Option (Int32 × WY)) (x8 : (Int32 × Int32 × Int32 × Int32 × WY)) (r11 : WY) (x12 : (Int32 × Int32 × Int32)) : Option (Int32 × WY) :=
  self9 (x12.1, x12.2.1, x12.2.2, x8.2.2.2.1 + (1 : Int32), r11)
noncomputable def mX7_farthest_L52 (v_o1 : MZ) (x8 : (Int32 × Int32 × Int32 × Int32 × WY)) (r11 : WY) (j13 : (Int32 × Int32 × Int32) → Option (Int32 × WY)) (self15 : (Int32 × Int32 × Int32 × Int32) → Option (Int32 × WY)) (x14 : (Int32 × Int32 × Int32 × Int32)) : Option (Int32 × WY) :=
  (mX3_cells v_o1).bind fun r16 => if r16 ≤ x14.2.2.2 then (j13 (x14.1, x14.2.1, x14.2.2.1)) else ((mX6_lengthTo r11 x14.2.2.2).bind fun r17 => jn (fun x18 : (Int32 × Int32 × Int32) => self15 (x18.1, x18.2.1, x18.2.2, x14.2.2.2 + (1 : Int32))) (fun j19 => if r17 ≤ x14.2.2.1 then (j19 (x14.1, x14.2.1, x14.2.2.1)) else ((mX6_lengthTo r11 x14.2.2.2).bind fun r20 => j19 (x8.2.2.2.1, x14.2.2.2, r20))))
noncomputable def mX7_farthest_L21 (F : Nat) (v_o1 : MZ) (j4 : (Int32 × Int32 × Int32 × WY) → Option (Int32 × WY)) (self9 : (Int32 × Int32 × Int32 × Int32 × WY) → Option (Int32 × WY)) (x8 : (Int32 × Int32 × Int32 × Int32 × WY)) : Option (Int32 × WY) :=
  (mX3_cells v_o1).bind fun r10 => if r10 ≤ x8.2.2.2.1 then (j4 (x8.1, x8.2.1, x8.2.2.1, x8.2.2.2.2)) else ((mX6_findFrom F x8.2.2.2.2 v_o1 x8.2.2.2.1).bind fun r11 => jn (mX7_farthest_K101 self9 x8 r11) (fun j13 => lpr (mX7_farthest_L52 v_o1 x8 r11 j13) F (x8.1, x8.2.1, x8.2.2.1, x8.2.2.2.1 + (1 : Int32))))
noncomputable def mX7_farthest (F : Nat) (v_o1 : MZ) (v_o5 : WY) (g1 : Int32) : Option (Int32 × WY) :=
  jn (fun x1 : Unit => some ((-1 : Int32), v_o5)) (fun j2 => if g1 < 0 then (j2 ()) else (if g1 ≤ (2 : Int32) then (jn (mX7_farthest_K107 g1) (fun j4 => lpr (mX7_farthest_L21 F v_o1 j4) F ((-1 : Int32), (-1 : Int32), (0 : Int32), (0 : Int32), v_o5))) else (j2 ())))

noncomputable def mX7_best (F : Nat) (v_o1 : MZ) (v_o6 : WY) (v_o7 : WY) (v_o10 : EX) (g1 : Int32) : Option (Int32 × WY × WY × EX) :=
  jn (fun x1 : Unit => some ((-1 : Int32), v_o6, v_o7, v_o10)) (fun j2 => if g1 < 0 then (j2 ()) else (if g1 ≤ (2 : Int32) then ((mX3_isWhole F v_o1).bind fun r3 => if r3 = 0 then (some ((-2 : Int32), v_o6, v_o7, v_o10)) else ((mX1_find F v_o10 v_o1 v_o6 v_o7).bind fun r4 => (mX7_choose g1 r4.1.1 r4.1.2.1 r4.1.2.2.2.1).bind fun r5 => some (r5, r4.2.1, r4.2.2, r4.1))) else (j2 ())))

noncomputable def mX7_freeSide_L2 (v_o1 : MZ) (g1 : Int32) (self2 : Int32 → Option Int32) (x1 : Int32) : Option Int32 :=
  if (4 : Int32) ≤ x1 then (some (-1 : Int32)) else ((mX3_beside v_o1 g1 x1).bind fun r3 => jn (fun x4 : Unit => self2 (x1 + (1 : Int32))) (fun j5 => if r3 = (-1 : Int32) then ((mX3_isDoorAt v_o1 (0 : Int32) g1 x1).bind fun r6 => if r6 = 0 then (some x1) else (j5 ())) else (j5 ())))
noncomputable def mX7_freeSide (F : Nat) (v_o1 : MZ) (g1 : Int32) : Option Int32 :=
  lpr (mX7_freeSide_L2 v_o1 g1) F (0 : Int32)

noncomputable def mX7_bestExit_K131 (g1 : Int32) (r4 : WY) (x6 : (Int32 × Int32 × Int32)) : Option (Int32 × WY) :=
  jn (fun x8 : Int32 => some (x8, r4)) (fun j9 => if x6.1 = (-1 : Int32) then (j9 (-4 : Int32)) else ((mX7_choose g1 x6.1 x6.2.1 x6.2.2).bind fun r10 => j9 r10))
noncomputable def mX7_bestExit_L48 (F : Nat) (v_o1 : MZ) (r4 : WY) (r5 : Int32) (j7 : (Int32 × Int32 × Int32) → Option (Int32 × WY)) (self12 : (Int32 × Int32 × Int32 × Int32) → Option (Int32 × WY)) (x11 : (Int32 × Int32 × Int32 × Int32)) : Option (Int32 × WY) :=
  (mX3_cells v_o1).bind fun r13 => if r13 ≤ x11.2.2.2 then (j7 (x11.1, x11.2.1, x11.2.2.1)) else ((mX7_freeSide F v_o1 x11.2.2.2).bind fun r14 => jn (fun x15 : (Int32 × Int32 × Int32) => self12 (x15.1, x15.2.1, x15.2.2, x11.2.2.2 + (1 : Int32))) (fun j16 => if r14 = (-1 : Int32) then (j16 (x11.1, x11.2.1, x11.2.2.1)) else ((mX6_reach r4 x11.2.2.2).bind fun r17 => if r17 = 0 then (j16 (x11.1, x11.2.1, x11.2.2.1)) else ((mX7_at 36 r4.2.2.2.2 x11.2.2.2).bind fun r18 => jn (fun x19 : Unit => j16 (x11.2.2.2, r14, r5 + r18)) (fun j20 => if x11.1 = (-1 : Int32) then (j20 ()) else (if x11.2.2.1 ≤ (r5 + r18) then (j16 (x11.1, x11.2.1, x11.2.2.1)) else (j20 ())))))))
noncomputable def mX7_bestExit (F : Nat) (v_o1 : MZ) (v_o6 : WY) (g1 : Int32) : Option (Int32 × WY) :=
  jn (fun x1 : Unit => some ((-1 : Int32), v_o6)) (fun j2 => if g1 < 0 then (j2 ()) else (if g1 ≤ (2 : Int32) then ((mX3_entryCell v_o1).bind fun r3 => (mX6_findFrom F v_o6 v_o1 r3).bind fun r4 => (mX3_toneSum F v_o1).bind fun r5 => jn (mX7_bestExit_K131 g1 r4) (fun j7 => lpr (mX7_bestExit_L48 F v_o1 r4 r5 j7) F ((-1 : Int32), (-1 : Int32), (0 : Int32), (0 : Int32)))) else (j2 ())))

noncomputable def mX7_keep (F : Nat) (m_hasSnapshot : Int32) (v_o1 : MZ) (v_o2 : MZ) : Option (Int32 × Int32 × MZ) :=
  (mX3_copyFrom F v_o2 v_o1).bind fun r1 => gd (zb (1 : Int32)) ((mX3_passageCount F v_o1).bind fun r2 => some (r2, (1 : Int32), r1))

noncomputable def mX7_restore (F : Nat) (m_hasSnapshot : Int32) (v_o1 : MZ) (v_o2 : MZ) (v_o3 : HS) : Option (Int32 × MZ × HS) :=
  if m_hasSnapshot = 0 then (some ((-2 : Int32), v_o1, v_o3)) else ((mX2_push F v_o3 v_o1).bind fun r1 => (mX3_copyFrom F v_o1 v_o2).bind fun r2 => (mX3_passageCount F r2).bind fun r3 => some (r3, r2, r1))

noncomputable def mX7_undo (F : Nat) (v_o1 : MZ) (v_o3 : HS) : Option (Int32 × MZ × Int32) :=
  (mX2_pop F v_o3 v_o1).bind fun r1 => if r1.1 = 0 then (some ((-2 : Int32), r1.2.2, r1.2.1)) else (some (r1.2.1, r1.2.2, r1.2.1))

noncomputable def mX7_type (v_o4 : PT) (g1 : Int32) : Option (Int32 × (Int32 × nF)) :=
  jn (fun x1 : Unit => some ((-1 : Int32), (v_o4.1, v_o4.2.2.2.1))) (fun j2 => if g1 < (32 : Int32) then (j2 ()) else (if g1 ≤ (126 : Int32) then (if v_o4.1 < (60 : Int32) then ((mX7_put 60 v_o4.2.2.2.1 v_o4.1 g1).bind fun r3 => some (v_o4.1 + (1 : Int32), (v_o4.1 + (1 : Int32), r3))) else (some ((-3 : Int32), (v_o4.1, v_o4.2.2.2.1)))) else (j2 ())))

noncomputable def mX7_clearText (v_o4 : PT) : Option (Int32 × Int32) :=
  some (v_o4.1, (0 : Int32))

noncomputable def mX4_blame (v_t : PT) (g1 : Int32) (g2 : Int32) : Option (Int32 × Int32) :=
  some (g1, g2)

noncomputable def mX4_lookAtDigit (v_t : PT) (g1 : Int32) : Option (Int32 × Int32 × Int32 × Int32) :=
  jn (fun x1 : (Int32 × Int32 × Int32 × Int32) => some (x1.1, x1.2.1, x1.2.2.1, x1.2.2.2)) (fun j2 => jn (fun x3 : Unit => jn (fun x5 : Unit => j2 (v_t.2.1, v_t.2.2.1, (if v_t.2.2.2.2.1 < (v_t.2.2.2.2.2.2 + (1 : Int32)) then (v_t.2.2.2.2.2.2 + (1 : Int32)) else v_t.2.2.2.2.1), v_t.2.2.2.2.2.2 + (1 : Int32))) (fun j6 => if v_t.2.2.2.2.2.1 ≤ (1 : Int32) then (j6 ()) else (if v_t.2.2.2.2.2.2 = v_t.2.2.2.2.1 then ((mX4_blame v_t g1 (1 : Int32)).bind fun r7 => j2 (r7.1, r7.2, v_t.2.2.2.2.1, v_t.2.2.2.2.2.2)) else (j6 ())))) (fun j4 => if v_t.2.2.2.2.2.1 = (1 : Int32) then (if v_t.2.2.2.2.2.2 = (6 : Int32) then ((mX4_blame v_t g1 (2 : Int32)).bind fun r8 => j2 (r8.1, r8.2, v_t.2.2.2.2.1, v_t.2.2.2.2.2.2)) else (j4 ())) else (j4 ())))

noncomputable def mX4_isRowFull (v_t : PT) : Option Int32 :=
  jn (fun x1 : Int32 => gd (zb x1) (some x1)) (fun j2 => jn (fun x3 : Unit => j2 (0 : Int32)) (fun j4 => if v_t.2.2.2.2.2.2 ≤ 0 then (j4 ()) else (if v_t.2.2.2.2.2.2 = v_t.2.2.2.2.1 then (j2 (1 : Int32)) else (j4 ()))))

noncomputable def mX4_lookAtSlash (v_t : PT) (g1 : Int32) : Option (Int32 × Int32 × Int32 × Int32) :=
  (mX4_isRowFull v_t).bind fun r1 => jn (fun x2 : (Int32 × Int32 × Int32 × Int32) => some (x2.1, x2.2.1, x2.2.2.1, x2.2.2.2)) (fun j3 => if r1 = 0 then ((mX4_blame v_t g1 (1 : Int32)).bind fun r5 => j3 (r5.1, r5.2, v_t.2.2.2.2.2.1, v_t.2.2.2.2.2.2)) else (if v_t.2.2.2.2.2.1 = (6 : Int32) then ((mX4_blame v_t g1 (3 : Int32)).bind fun r4 => j3 (r4.1, r4.2, v_t.2.2.2.2.2.1, v_t.2.2.2.2.2.2)) else (j3 (v_t.2.1, v_t.2.2.1, v_t.2.2.2.2.2.1 + (1 : Int32), (0 : Int32)))))

noncomputable def mX4_lookAtEnd (v_t : PT) : Option (Int32 × Int32) :=
  (mX4_isRowFull v_t).bind fun r1 => jn (fun x2 : (Int32 × Int32) => some (x2.1, x2.2)) (fun j3 => if r1 = 0 then ((mX4_blame v_t v_t.1 (1 : Int32)).bind fun r7 => j3 (r7.1, r7.2)) else (jn (fun x4 : Unit => (mX4_blame v_t v_t.1 (4 : Int32)).bind fun r6 => j3 (r6.1, r6.2)) (fun j5 => if v_t.2.2.2.2.1 = (1 : Int32) then (j5 ()) else (if v_t.2.2.2.2.2.1 = (1 : Int32) then (j5 ()) else (j3 (v_t.2.1, v_t.2.2.1))))))

noncomputable def mX4_look_K97 (v_t : PT) (x1 : (Int32 × Int32 × Int32 × Int32 × Int32)) : Option (Int32 × Int32 × Int32 × Int32 × Int32) :=
  jn (fun x3 : (Int32 × Int32) => some (x3.1, x3.2, x1.2.2.1, x1.2.2.2.1, x1.2.2.2.2)) (fun j4 => if x1.2.1 = 0 then ((mX4_lookAtEnd (v_t.1, x1.1, x1.2.1, v_t.2.2.2.1, x1.2.2.1, x1.2.2.2.1, x1.2.2.2.2)).bind fun r5 => j4 (r5.1, r5.2)) else (j4 (x1.1, x1.2.1)))
noncomputable def mX4_look_L27 (v_t : PT) (j2 : (Int32 × Int32 × Int32 × Int32 × Int32) → Option (Int32 × Int32 × Int32 × Int32 × Int32)) (self7 : (Int32 × Int32 × Int32 × Int32 × Int32 × Int32) → Option (Int32 × Int32 × Int32 × Int32 × Int32)) (x6 : (Int32 × Int32 × Int32 × Int32 × Int32 × Int32)) : Option (Int32 × Int32 × Int32 × Int32 × Int32) :=
  if v_t.1 ≤ x6.1 then (j2 (x6.2.1, x6.2.2.1, x6.2.2.2.1, x6.2.2.2.2.1, x6.2.2.2.2.2)) else (if x6.2.2.1 = 0 then ((mX7_at 60 v_t.2.2.2.1 x6.1).bind fun r8 => jn (fun x9 : (Int32 × Int32 × Int32 × Int32 × Int32) => self7 (x6.1 + (1 : Int32), x9.1, x9.2.1, x9.2.2.1, x9.2.2.2.1, x9.2.2.2.2)) (fun j10 => jn (fun x11 : Unit => if r8 = (47 : Int32) then ((mX4_lookAtSlash (v_t.1, x6.2.1, x6.2.2.1, v_t.2.2.2.1, x6.2.2.2.1, x6.2.2.2.2.1, x6.2.2.2.2.2) x6.1).bind fun r14 => j10 (r14.1, r14.2.1, x6.2.2.2.1, r14.2.2.1, r14.2.2.2)) else ((mX4_blame (v_t.1, x6.2.1, x6.2.2.1, v_t.2.2.2.1, x6.2.2.2.1, x6.2.2.2.2.1, x6.2.2.2.2.2) x6.1 (1 : Int32)).bind fun r13 => j10 (r13.1, r13.2, x6.2.2.2.1, x6.2.2.2.2.1, x6.2.2.2.2.2))) (fun j12 => if r8 < (48 : Int32) then (j12 ()) else (if (57 : Int32) < r8 then (j12 ()) else ((mX4_lookAtDigit (v_t.1, x6.2.1, x6.2.2.1, v_t.2.2.2.1, x6.2.2.2.1, x6.2.2.2.2.1, x6.2.2.2.2.2) x6.1).bind fun r15 => j10 (r15.1, r15.2.1, r15.2.2.1, x6.2.2.2.2.1, r15.2.2.2)))))) else (j2 (x6.2.1, x6.2.2.1, x6.2.2.2.1, x6.2.2.2.2.1, x6.2.2.2.2.2)))
noncomputable def mX4_look (F : Nat) (v_t : PT) : Option (Int32 × Int32 × Int32 × Int32 × Int32) :=
  jn (mX4_look_K97 v_t) (fun j2 => lpr (mX4_look_L27 v_t j2) F ((0 : Int32), (0 : Int32), (0 : Int32), (0 : Int32), (1 : Int32), (0 : Int32)))

noncomputable def mX7_fault (F : Nat) (v_o4 : PT) (g1 : Int32) : Option (Int32 × (Int32 × Int32 × Int32 × Int32 × Int32)) :=
  jn (fun x1 : Unit => some ((-1 : Int32), (v_o4.2.1, v_o4.2.2.1, v_o4.2.2.2.2.1, v_o4.2.2.2.2.2.1, v_o4.2.2.2.2.2.2))) (fun j2 => if g1 < 0 then (j2 ()) else (if g1 ≤ (1 : Int32) then ((mX4_look F v_o4).bind fun r3 => if r3.2.1 = 0 then (some ((-4 : Int32), (r3.1, r3.2.1, r3.2.2.1, r3.2.2.2.1, r3.2.2.2.2))) else (jn (fun x4 : Int32 => some (x4, (r3.1, r3.2.1, r3.2.2.1, r3.2.2.2.1, r3.2.2.2.2))) (fun j5 => if g1 = 0 then (j5 r3.1) else (j5 r3.2.1)))) else (j2 ())))

noncomputable def mX4_paint_L16 (v_t : PT) (r1 : MZ) (self3 : (Int32 × Int32 × nF) → Option MZ) (x2 : (Int32 × Int32 × nF)) : Option MZ :=
  if v_t.1 ≤ x2.2.1 then (some (r1.1, r1.2.1, x2.2.2, r1.2.2.2.1, r1.2.2.2.2.1, r1.2.2.2.2.2)) else ((mX7_at 60 v_t.2.2.2.1 x2.2.1).bind fun r4 => jn (fun x5 : (Int32 × nF) => self3 (x5.1, x2.2.1 + (1 : Int32), x5.2)) (fun j6 => if r4 = (47 : Int32) then (j6 (x2.1, x2.2.2)) else ((mX7_put 36 x2.2.2 x2.1 (r4 - (48 : Int32))).bind fun r7 => j6 (x2.1 + (1 : Int32), r7))))
noncomputable def mX4_paint (F : Nat) (v_t : PT) (v_p1 : MZ) : Option MZ :=
  (mX3_clear F v_p1 v_t.2.2.2.2.1 v_t.2.2.2.2.2.1).bind fun r1 => lpr (mX4_paint_L16 v_t r1) F ((0 : Int32), (0 : Int32), r1.2.2.1)

noncomputable def mX7_read (F : Nat) (v_o1 : MZ) (v_o3 : HS) (v_o4 : PT) : Option (Int32 × MZ × HS × (Int32 × Int32 × Int32 × Int32 × Int32)) :=
  (mX4_look F v_o4).bind fun r1 => if r1.2.1 = 0 then ((mX2_push F v_o3 v_o1).bind fun r2 => (mX4_paint F (v_o4.1, r1.1, r1.2.1, v_o4.2.2.2.1, r1.2.2.1, r1.2.2.2.1, r1.2.2.2.2) v_o1).bind fun r3 => (mX3_cells r3).bind fun r4 => some (r4, r3, r2, (r1.1, r1.2.1, r1.2.2.1, r1.2.2.2.1, r1.2.2.2.2))) else (some ((-2 : Int32), v_o1, v_o3, (r1.1, r1.2.1, r1.2.2.1, r1.2.2.2.1, r1.2.2.2.2)))

noncomputable def mX8_lightens_K21 (g1 : Int32) (g2 : Int32) (x1 : nF) : Option nF :=
  gd (inb (0 : Int32) 114) (gd (inb (1 : Int32) 114) (gd (inb (3 : Int32) 114) (gd (inb (4 : Int32) 114) (gd (inb (5 : Int32) 114) (some (upd (upd (upd (upd (upd x1 (0 : Int32).toNatClampNeg g1) (1 : Int32).toNatClampNeg g2) (3 : Int32).toNatClampNeg (3 : Int32)) (4 : Int32).toNatClampNeg ((g1 * g2) - (1 : Int32))) (5 : Int32).toNatClampNeg (1 : Int32)))))))
noncomputable def mX8_lightens_L2 (j2 : nF → Option nF) (self4 : (Int32 × nF) → Option nF) (x3 : (Int32 × nF)) : Option nF :=
  if (114 : Int32) ≤ x3.1 then (j2 x3.2) else (gd (inb x3.1 114) (self4 (x3.1 + (1 : Int32), (upd x3.2 x3.1.toNatClampNeg (0 : Int32)))))
noncomputable def mX8_lightens (F : Nat) (m_s : nF) (g1 : Int32) (g2 : Int32) : Option nF :=
  jn (mX8_lightens_K21 g1 g2) (fun j2 => lpr (mX8_lightens_L2 j2) F ((0 : Int32), m_s))

noncomputable def mX8_in (g0 : Int32) (g1 : Int32) (g2 : Int32) : Option Int32 :=
  jn (fun x1 : Int32 => gd (zb x1) (some x1)) (fun j2 => jn (fun x3 : Unit => j2 (0 : Int32)) (fun j4 => if g0 < g1 then (j4 ()) else (if g2 < g0 then (j4 ()) else (j2 (1 : Int32)))))

noncomputable def mX8_begins_L2 (m_s : nF) (self2 : (Int32 × nF) → Option nF) (x1 : (Int32 × nF)) : Option nF :=
  if (114 : Int32) ≤ x1.1 then (some x1.2) else (gd (inb x1.1 114) (gd (inb x1.1 114) (self2 (x1.1 + (1 : Int32), (upd x1.2 x1.1.toNatClampNeg (m_s x1.1.toNatClampNeg))))))
noncomputable def mX8_begins (F : Nat) (m_s : nF) (m_begun : nF) : Option nF :=
  lpr (mX8_begins_L2 m_s) F ((0 : Int32), m_begun)

noncomputable def mX8_acted_L82 (m_s : nF) (m_begun : nF) (g1 : Int32) (x1 : (nF × Int32)) (self4 : (Int32 × nF) → Option (Int32 × nF × nF × Int32)) (x3 : (Int32 × nF)) : Option (Int32 × nF × nF × Int32) :=
  if (114 : Int32) ≤ x3.1 then (some (g1, m_s, x3.2, x1.2 + (1 : Int32))) else (gd (inb x3.1 114) (gd (inb (((114 : Int32) * x1.2) + x3.1) 456) (self4 (x3.1 + (1 : Int32), (upd x3.2 (((114 : Int32) * x1.2) + x3.1).toNatClampNeg (m_begun x3.1.toNatClampNeg))))))
noncomputable def mX8_acted_K70 (m_states : Int32) (j2 : (nF × Int32) → Option (Int32 × nF × nF × Int32)) (x5 : nF) : Option (Int32 × nF × nF × Int32) :=
  j2 (x5, m_states - (1 : Int32))
noncomputable def mX8_acted_L42 (j6 : nF → Option (Int32 × nF × nF × Int32)) (self8 : (Int32 × nF) → Option (Int32 × nF × nF × Int32)) (x7 : (Int32 × nF)) : Option (Int32 × nF × nF × Int32) :=
  if (342 : Int32) ≤ x7.1 then (j6 x7.2) else (gd (inb (x7.1 + (114 : Int32)) 456) (gd (inb x7.1 456) (self8 (x7.1 + (1 : Int32), (upd x7.2 x7.1.toNatClampNeg (x7.2 (x7.1 + (114 : Int32)).toNatClampNeg))))))
noncomputable def mX8_acted_L6 (m_begun : nF) (m_past : nF) (m_states : Int32) (g1 : Int32) (self10 : (Int32 × nF) → Option (Int32 × nF × nF × Int32)) (x9 : (Int32 × nF)) : Option (Int32 × nF × nF × Int32) :=
  if (114 : Int32) ≤ x9.1 then (some (g1, x9.2, m_past, m_states)) else (gd (inb x9.1 114) (gd (inb x9.1 114) (self10 (x9.1 + (1 : Int32), (upd x9.2 x9.1.toNatClampNeg (m_begun x9.1.toNatClampNeg))))))
noncomputable def mX8_acted (F : Nat) (m_s : nF) (m_begun : nF) (m_past : nF) (m_states : Int32) (g1 : Int32) : Option (Int32 × nF × nF × Int32) :=
  if 0 ≤ g1 then (jn (fun x1 : (nF × Int32) => lpr (mX8_acted_L82 m_s m_begun g1 x1) F ((0 : Int32), x1.1)) (fun j2 => if m_states = (4 : Int32) then (jn (mX8_acted_K70 m_states j2) (fun j6 => lpr (mX8_acted_L42 j6) F ((0 : Int32), m_past))) else (j2 (m_past, m_states)))) else (lpr (mX8_acted_L6 m_begun m_past m_states g1) F ((0 : Int32), m_s))

noncomputable def mX8_cells (m_s : nF) : Option Int32 :=
  gd (inb (0 : Int32) 114) (gd (inb (1 : Int32) 114) (some ((m_s (0 : Int32).toNatClampNeg) * (m_s (1 : Int32).toNatClampNeg))))

noncomputable def mX8_isCell (m_s : nF) (g1 : Int32) : Option Int32 :=
  (mX8_cells m_s).bind fun r1 => (mX8_in g1 (0 : Int32) (r1 - (1 : Int32))).bind fun r2 => gd (zb r2) (some r2)

noncomputable def mX8_besides (m_s : nF) (g1 : Int32) (g2 : Int32) : Option Int32 :=
  gd (inb (0 : Int32) 114) (gd (nz (m_s (0 : Int32).toNatClampNeg)) (gd (inb (0 : Int32) 114) (gd (nz (m_s (0 : Int32).toNatClampNeg)) (if g2 = (0 : Int32) then (jn (fun x2 : Int32 => some x2) (fun j3 => if (g1 / (m_s (0 : Int32).toNatClampNeg)) ≤ 0 then (j3 (-1 : Int32)) else (gd (inb (0 : Int32) 114) (j3 (g1 - (m_s (0 : Int32).toNatClampNeg)))))) else if g2 = (1 : Int32) then (gd (inb (0 : Int32) 114) (jn (fun x5 : Int32 => some x5) (fun j6 => if (m_s (0 : Int32).toNatClampNeg) ≤ ((g1 - g1 / (m_s (0 : Int32).toNatClampNeg) * (m_s (0 : Int32).toNatClampNeg)) + (1 : Int32)) then (j6 (-1 : Int32)) else (j6 (g1 + (1 : Int32)))))) else if g2 = (2 : Int32) then (gd (inb (1 : Int32) 114) (jn (fun x8 : Int32 => some x8) (fun j9 => if (m_s (1 : Int32).toNatClampNeg) ≤ ((g1 / (m_s (0 : Int32).toNatClampNeg)) + (1 : Int32)) then (j9 (-1 : Int32)) else (gd (inb (0 : Int32) 114) (j9 (g1 + (m_s (0 : Int32).toNatClampNeg))))))) else (jn (fun x10 : Int32 => some x10) (fun j11 => if (g1 - g1 / (m_s (0 : Int32).toNatClampNeg) * (m_s (0 : Int32).toNatClampNeg)) ≤ 0 then (j11 (-1 : Int32)) else (j11 (g1 - (1 : Int32)))))))))

noncomputable def mX8_numberOf (m_s : nF) (g1 : Int32) (g2 : Int32) : Option Int32 :=
  (mX8_besides m_s g1 g2).bind fun r1 => jn (fun x2 : Int32 => gd (nz (2 : Int32)) (jn (fun x4 : Int32 => some (((2 : Int32) * x2) + x4)) (fun j5 => if (g2 - g2 / (2 : Int32) * (2 : Int32)) = 0 then (j5 (1 : Int32)) else (j5 (0 : Int32))))) (fun j3 => jn (fun x6 : Unit => j3 g1) (fun j7 => if g2 = (1 : Int32) then (j7 ()) else (if g2 = (2 : Int32) then (j7 ()) else (j3 r1))))

noncomputable def mX8_isOpen (m_s : nF) (g1 : Int32) (g2 : Int32) : Option Int32 :=
  (mX8_besides m_s g1 g2).bind fun r1 => jn (fun x2 : Int32 => gd (zb x2) (some x2)) (fun j3 => jn (fun x4 : Unit => j3 (0 : Int32)) (fun j5 => if r1 < 0 then (j5 ()) else ((mX8_numberOf m_s g1 g2).bind fun r6 => gd (inb ((42 : Int32) + r6) 114) (if (m_s ((42 : Int32) + r6).toNatClampNeg) = (1 : Int32) then (j3 (1 : Int32)) else (j5 ())))))

noncomputable def mX8_second (m_s : nF) (g1 : Int32) : Option Int32 :=
  gd (nz (2 : Int32)) (gd (nz (2 : Int32)) (jn (fun x1 : Int32 => (mX8_besides m_s (g1 / (2 : Int32)) x1).bind fun r3 => some r3) (fun j2 => if (g1 - g1 / (2 : Int32) * (2 : Int32)) = 0 then (j2 (1 : Int32)) else (j2 (2 : Int32)))))

noncomputable def mX8_measures_K136 (self4 : (Int32 × Int32 × nF × nF) → Option (nF × nF)) (x3 : (Int32 × Int32 × nF × nF)) (x5 : (Int32 × nF × nF)) : Option (nF × nF) :=
  self4 (x5.1, x3.2.1 + (1 : Int32), x5.2.1, x5.2.2)
noncomputable def mX8_measures_L57 (m_s : nF) (x3 : (Int32 × Int32 × nF × nF)) (j6 : (Int32 × nF × nF) → Option (nF × nF)) (self8 : (Int32 × Int32 × nF × nF) → Option (nF × nF)) (x7 : (Int32 × Int32 × nF × nF)) : Option (nF × nF) :=
  if (4 : Int32) ≤ x7.2.1 then (j6 (x7.1, x7.2.2.1, x7.2.2.2)) else ((mX8_isOpen m_s (x3.2.2.2 x3.2.1.toNatClampNeg) x7.2.1).bind fun r9 => jn (fun x10 : Int32 => jn (fun x12 : (Int32 × nF × nF) => self8 (x12.1, x7.2.1 + (1 : Int32), x12.2.1, x12.2.2)) (fun j13 => if x10 < 0 then (j13 (x7.1, x7.2.2.1, x7.2.2.2)) else (gd (inb x10 36) (if 0 ≤ (x7.2.2.1 x10.toNatClampNeg) then (j13 (x7.1, x7.2.2.1, x7.2.2.2)) else (gd (inb (x3.2.2.2 x3.2.1.toNatClampNeg) 36) (gd (inb x10 36) (gd (inb x7.1 36) (j13 (x7.1 + (1 : Int32), (upd x7.2.2.1 x10.toNatClampNeg ((x7.2.2.1 (x3.2.2.2 x3.2.1.toNatClampNeg).toNatClampNeg) + (1 : Int32))), (upd x7.2.2.2 x7.1.toNatClampNeg x10)))))))))) (fun j11 => if r9 = 0 then (j11 (-1 : Int32)) else ((mX8_besides m_s (x3.2.2.2 x3.2.1.toNatClampNeg) x7.2.1).bind fun r14 => j11 r14)))
noncomputable def mX8_measures_L41 (F : Nat) (m_s : nF) (self4 : (Int32 × Int32 × nF × nF) → Option (nF × nF)) (x3 : (Int32 × Int32 × nF × nF)) : Option (nF × nF) :=
  if x3.1 ≤ x3.2.1 then (some (x3.2.2.1, x3.2.2.2)) else (gd (inb x3.2.1 36) (jn (mX8_measures_K136 self4 x3) (fun j6 => lpr (mX8_measures_L57 m_s x3 j6) F (x3.1, (0 : Int32), x3.2.2.1, x3.2.2.2))))
noncomputable def mX8_measures_K23 (F : Nat) (m_s : nF) (m_queue : nF) (g1 : Int32) (x1 : nF) : Option (nF × nF) :=
  gd (inb g1 36) (gd (inb (0 : Int32) 36) (lpr (mX8_measures_L41 F m_s) F ((1 : Int32), (0 : Int32), (upd x1 g1.toNatClampNeg (0 : Int32)), (upd m_queue (0 : Int32).toNatClampNeg g1))))
noncomputable def mX8_measures_L2 (m_s : nF) (j2 : nF → Option (nF × nF)) (self16 : (Int32 × nF) → Option (nF × nF)) (x15 : (Int32 × nF)) : Option (nF × nF) :=
  (mX8_cells m_s).bind fun r17 => if r17 ≤ x15.1 then (j2 x15.2) else (gd (inb x15.1 36) (self16 (x15.1 + (1 : Int32), (upd x15.2 x15.1.toNatClampNeg (-1 : Int32)))))
noncomputable def mX8_measures (F : Nat) (m_s : nF) (m_far : nF) (m_queue : nF) (g1 : Int32) : Option (nF × nF) :=
  jn (mX8_measures_K23 F m_s m_queue g1) (fun j2 => lpr (mX8_measures_L2 m_s j2) F ((0 : Int32), m_far))

noncomputable def mX8_areJoined (F : Nat) (m_s : nF) (m_far : nF) (m_queue : nF) (g1 : Int32) (g2 : Int32) : Option (Int32 × nF × nF) :=
  (mX8_measures F m_s m_far m_queue g1).bind fun r1 => gd (inb g2 36) (jn (fun x2 : Int32 => gd (zb x2) (some (x2, r1.1, r1.2))) (fun j3 => if (r1.1 g2.toNatClampNeg) < 0 then (j3 (0 : Int32)) else (j3 (1 : Int32))))

noncomputable def mX8_passages_L4 (m_s : nF) (self2 : (Int32 × Int32) → Option Int32) (x1 : (Int32 × Int32)) : Option Int32 :=
  (mX8_cells m_s).bind fun r3 => if ((2 : Int32) * r3) ≤ x1.2 then (some x1.1) else (gd (inb ((42 : Int32) + x1.2) 114) (self2 (x1.1 + (m_s ((42 : Int32) + x1.2).toNatClampNeg), x1.2 + (1 : Int32))))
noncomputable def mX8_passages (F : Nat) (m_s : nF) : Option Int32 :=
  lpr (mX8_passages_L4 m_s) F ((0 : Int32), (0 : Int32))

noncomputable def mX8_parts (F : Nat) (m_s : nF) : Option Int32 :=
  (mX8_cells m_s).bind fun r1 => (mX8_passages F m_s).bind fun r2 => some (r1 - r2)

noncomputable def mX8_isWhole (F : Nat) (m_s : nF) : Option Int32 :=
  (mX8_parts F m_s).bind fun r1 => jn (fun x2 : Int32 => gd (zb x2) (some x2)) (fun j3 => if r1 = (1 : Int32) then (j3 (1 : Int32)) else (j3 (0 : Int32)))

noncomputable def mX8_findsWay_K146 (m_s : nF) (self5 : (Int32 × Int32 × nF × nF × Int32 × Int32) → Option (Int32 × nF × nF × nF × nF × Int32 × Int32)) (x4 : (Int32 × Int32 × nF × nF × Int32 × Int32)) (x6 : Int32) : Option (Int32 × nF × nF × nF × nF × Int32 × Int32) :=
  jn (fun x8 : Int32 => (mX8_besides m_s x4.1 x6).bind fun r10 => gd (inb r10 36) (gd (inb x4.2.2.2.2.1 36) (self5 (r10, x6, (upd x4.2.2.1 r10.toNatClampNeg (vp_nar .boolean (1 : Int32))), (upd x4.2.2.2.1 x4.2.2.2.2.1.toNatClampNeg r10), x4.2.2.2.2.1 + (1 : Int32), x4.2.2.2.2.2 + x8)))) (fun j9 => jn (fun x11 : Unit => j9 (0 : Int32)) (fun j12 => if x4.2.1 < 0 then (j12 ()) else (if x6 = x4.2.1 then (j12 ()) else (j9 (1 : Int32)))))
noncomputable def mX8_findsWay_L92 (m_s : nF) (r3 : (nF × nF)) (x4 : (Int32 × Int32 × nF × nF × Int32 × Int32)) (j7 : Int32 → Option (Int32 × nF × nF × nF × nF × Int32 × Int32)) (self14 : (Int32 × Int32) → Option (Int32 × nF × nF × nF × nF × Int32 × Int32)) (x13 : (Int32 × Int32)) : Option (Int32 × nF × nF × nF × nF × Int32 × Int32) :=
  if (4 : Int32) ≤ x13.2 then (j7 x13.1) else ((mX8_isOpen m_s x4.1 x13.2).bind fun r15 => jn (fun x16 : Int32 => self14 (x16, x13.2 + (1 : Int32))) (fun j17 => jn (fun x18 : Unit => j17 x13.1) (fun j19 => if r15 = 0 then (j19 ()) else ((mX8_besides m_s x4.1 x13.2).bind fun r20 => gd (inb r20 36) (gd (inb x4.1 36) (if (r3.1 r20.toNatClampNeg) = ((r3.1 x4.1.toNatClampNeg) - (1 : Int32)) then (j17 x13.2) else (j19 ())))))))
noncomputable def mX8_findsWay_L77 (F : Nat) (m_s : nF) (r3 : (nF × nF)) (self5 : (Int32 × Int32 × nF × nF × Int32 × Int32) → Option (Int32 × nF × nF × nF × nF × Int32 × Int32)) (x4 : (Int32 × Int32 × nF × nF × Int32 × Int32)) : Option (Int32 × nF × nF × nF × nF × Int32 × Int32) :=
  gd (inb x4.1 36) (if (r3.1 x4.1.toNatClampNeg) ≤ 0 then (gd (zb (1 : Int32)) (some ((1 : Int32), r3.1, r3.2, x4.2.2.1, x4.2.2.2.1, x4.2.2.2.2.1, x4.2.2.2.2.2))) else (jn (mX8_findsWay_K146 m_s self5 x4) (fun j7 => lpr (mX8_findsWay_L92 m_s r3 x4 j7) F ((-1 : Int32), (0 : Int32)))))
noncomputable def mX8_findsWay_K23 (F : Nat) (m_s : nF) (m_far : nF) (m_queue : nF) (m_steps : nF) (g1 : Int32) (x1 : nF) : Option (Int32 × nF × nF × nF × nF × Int32 × Int32) :=
  (mX8_measures F m_s m_far m_queue g1).bind fun r3 => gd (inb (2 : Int32) 114) (gd (inb (m_s (2 : Int32).toNatClampNeg) 36) (if 0 ≤ (r3.1 (m_s (2 : Int32).toNatClampNeg).toNatClampNeg) then (gd (inb (m_s (2 : Int32).toNatClampNeg) 36) (gd (inb (0 : Int32) 36) (lpr (mX8_findsWay_L77 F m_s r3) F (m_s (2 : Int32).toNatClampNeg, (-1 : Int32), (upd x1 (m_s (2 : Int32).toNatClampNeg).toNatClampNeg (vp_nar .boolean (1 : Int32))), (upd m_steps (0 : Int32).toNatClampNeg (m_s (2 : Int32).toNatClampNeg)), (1 : Int32), (0 : Int32))))) else (gd (zb (0 : Int32)) (some ((0 : Int32), r3.1, r3.2, x1, m_steps, (0 : Int32), (0 : Int32))))))
noncomputable def mX8_findsWay_L2 (m_s : nF) (j2 : nF → Option (Int32 × nF × nF × nF × nF × Int32 × Int32)) (self22 : (Int32 × nF) → Option (Int32 × nF × nF × nF × nF × Int32 × Int32)) (x21 : (Int32 × nF)) : Option (Int32 × nF × nF × nF × nF × Int32 × Int32) :=
  (mX8_cells m_s).bind fun r23 => if r23 ≤ x21.1 then (j2 x21.2) else (gd (inb x21.1 36) (self22 (x21.1 + (1 : Int32), (upd x21.2 x21.1.toNatClampNeg (vp_nar .boolean (0 : Int32))))))
noncomputable def mX8_findsWay (F : Nat) (m_s : nF) (m_far : nF) (m_queue : nF) (m_isOn : nF) (m_steps : nF) (m_wayCells : Int32) (m_turns : Int32) (g1 : Int32) : Option (Int32 × nF × nF × nF × nF × Int32 × Int32) :=
  jn (mX8_findsWay_K23 F m_s m_far m_queue m_steps g1) (fun j2 => lpr (mX8_findsWay_L2 m_s j2) F ((0 : Int32), m_isOn))

noncomputable def mX8_faultTo_L11 (m_s : nF) (r1 : (Int32 × nF × nF × nF × nF × Int32 × Int32)) (self3 : (Int32 × Int32) → Option (Int32 × nF × nF × nF × nF × Int32 × Int32)) (x2 : (Int32 × Int32)) : Option (Int32 × nF × nF × nF × nF × Int32 × Int32) :=
  (mX8_cells m_s).bind fun r4 => if r4 ≤ x2.2 then (some (x2.1, r1.2.1, r1.2.2.1, r1.2.2.2.1, r1.2.2.2.2.1, r1.2.2.2.2.2.1, r1.2.2.2.2.2.2)) else (gd (inb x2.2 36) (jn (fun x5 : Int32 => self3 (x2.1 + x5, x2.2 + (1 : Int32))) (fun j6 => if (r1.2.2.2.1 x2.2.toNatClampNeg) = 0 then (gd (inb ((6 : Int32) + x2.2) 114) (j6 (m_s ((6 : Int32) + x2.2).toNatClampNeg))) else (gd (inb ((6 : Int32) + x2.2) 114) (j6 ((9 : Int32) - (m_s ((6 : Int32) + x2.2).toNatClampNeg)))))))
noncomputable def mX8_faultTo (F : Nat) (m_s : nF) (m_far : nF) (m_queue : nF) (m_isOn : nF) (m_steps : nF) (m_wayCells : Int32) (m_turns : Int32) (g1 : Int32) : Option (Int32 × nF × nF × nF × nF × Int32 × Int32) :=
  (mX8_findsWay F m_s m_far m_queue m_isOn m_steps m_wayCells m_turns g1).bind fun r1 => lpr (mX8_faultTo_L11 m_s r1) F ((0 : Int32), (0 : Int32))

noncomputable def mX8_wayFault (F : Nat) (m_s : nF) (m_far : nF) (m_queue : nF) (m_isOn : nF) (m_steps : nF) (m_wayCells : Int32) (m_turns : Int32) : Option (Int32 × nF × nF × nF × nF × Int32 × Int32) :=
  gd (inb (4 : Int32) 114) ((mX8_faultTo F m_s m_far m_queue m_isOn m_steps m_wayCells m_turns (m_s (4 : Int32).toNatClampNeg)).bind fun r1 => some (r1.1, r1.2.1, r1.2.2.1, r1.2.2.2.1, r1.2.2.2.2.1, r1.2.2.2.2.2.1, r1.2.2.2.2.2.2))

noncomputable def mX8_walks_K200 (m_s : nF) (self6 : (Int32 × Int32 × nF × nF) → Option (Int32 × nF × nF)) (x5 : (Int32 × Int32 × nF × nF)) (x7 : Int32) : Option (Int32 × nF × nF) :=
  if 0 ≤ x7 then ((mX8_besides m_s x5.1 x7).bind fun r9 => self6 (r9, x7, (upd x5.2.2.1 x5.1.toNatClampNeg ((x5.2.2.1 x5.1.toNatClampNeg) + (1 : Int32))), (upd x5.2.2.2 (((4 : Int32) * x5.1) + x5.2.1).toNatClampNeg (vp_nar .boolean (1 : Int32))))) else (gd (zb (0 : Int32)) (some ((0 : Int32), (upd x5.2.2.1 x5.1.toNatClampNeg ((x5.2.2.1 x5.1.toNatClampNeg) + (1 : Int32))), (upd x5.2.2.2 (((4 : Int32) * x5.1) + x5.2.1).toNatClampNeg (vp_nar .boolean (1 : Int32))))))
noncomputable def mX8_walks_L100 (m_s : nF) (x5 : (Int32 × Int32 × nF × nF)) (j8 : Int32 → Option (Int32 × nF × nF)) (self11 : (Int32 × Int32) → Option (Int32 × nF × nF)) (x10 : (Int32 × Int32)) : Option (Int32 × nF × nF) :=
  if (4 : Int32) ≤ x10.2 then (j8 x10.1) else (if 0 ≤ x10.1 then (j8 x10.1) else (jn (fun x12 : Int32 => gd (inb (4 : Int32) 114) (jn (fun x14 : Unit => (mX8_isOpen m_s x5.1 x12).bind fun r16 => jn (fun x17 : Int32 => self11 (x17, x10.2 + (1 : Int32))) (fun j18 => if r16 = 0 then (j18 (-1 : Int32)) else (j18 x12))) (fun j15 => if x5.1 = (m_s (4 : Int32).toNatClampNeg) then (gd (inb (5 : Int32) 114) (if x12 = (m_s (5 : Int32).toNatClampNeg) then (gd (zb (1 : Int32)) (some ((1 : Int32), (upd x5.2.2.1 x5.1.toNatClampNeg ((x5.2.2.1 x5.1.toNatClampNeg) + (1 : Int32))), (upd x5.2.2.2 (((4 : Int32) * x5.1) + x5.2.1).toNatClampNeg (vp_nar .boolean (1 : Int32)))))) else (j15 ()))) else (j15 ())))) (fun j13 => if x10.2 = 0 then (gd (nz (4 : Int32)) (j13 ((x5.2.1 + (1 : Int32)) - (x5.2.1 + (1 : Int32)) / (4 : Int32) * (4 : Int32)))) else (if x10.2 = (1 : Int32) then (j13 x5.2.1) else (if x10.2 = (2 : Int32) then (gd (nz (4 : Int32)) (j13 ((x5.2.1 + (3 : Int32)) - (x5.2.1 + (3 : Int32)) / (4 : Int32) * (4 : Int32)))) else (gd (nz (4 : Int32)) (j13 ((x5.2.1 + (2 : Int32)) - (x5.2.1 + (2 : Int32)) / (4 : Int32) * (4 : Int32)))))))))
noncomputable def mX8_walks_L61 (F : Nat) (m_s : nF) (self6 : (Int32 × Int32 × nF × nF) → Option (Int32 × nF × nF)) (x5 : (Int32 × Int32 × nF × nF)) : Option (Int32 × nF × nF) :=
  gd (inb (((4 : Int32) * x5.1) + x5.2.1) 144) (if (x5.2.2.2 (((4 : Int32) * x5.1) + x5.2.1).toNatClampNeg) = 0 then (gd (inb (((4 : Int32) * x5.1) + x5.2.1) 144) (gd (inb x5.1 36) (gd (inb x5.1 36) (jn (mX8_walks_K200 m_s self6 x5) (fun j8 => lpr (mX8_walks_L100 m_s x5 j8) F ((-1 : Int32), (0 : Int32))))))) else (gd (zb (0 : Int32)) (some ((0 : Int32), x5.2.2.1, x5.2.2.2))))
noncomputable def mX8_walks_K43 (F : Nat) (m_s : nF) (x1 : nF) (x3 : nF) : Option (Int32 × nF × nF) :=
  gd (inb (2 : Int32) 114) (gd (inb (3 : Int32) 114) (gd (nz (4 : Int32)) (lpr (mX8_walks_L61 F m_s) F (m_s (2 : Int32).toNatClampNeg, ((m_s (3 : Int32).toNatClampNeg) + (2 : Int32)) - ((m_s (3 : Int32).toNatClampNeg) + (2 : Int32)) / (4 : Int32) * (4 : Int32), x1, x3))))
noncomputable def mX8_walks_L23 (j4 : nF → Option (Int32 × nF × nF)) (self20 : (Int32 × nF) → Option (Int32 × nF × nF)) (x19 : (Int32 × nF)) : Option (Int32 × nF × nF) :=
  if (144 : Int32) ≤ x19.1 then (j4 x19.2) else (gd (inb x19.1 144) (self20 (x19.1 + (1 : Int32), (upd x19.2 x19.1.toNatClampNeg (vp_nar .boolean (0 : Int32))))))
noncomputable def mX8_walks_K21 (F : Nat) (m_s : nF) (m_wasSo : nF) (x1 : nF) : Option (Int32 × nF × nF) :=
  jn (mX8_walks_K43 F m_s x1) (fun j4 => lpr (mX8_walks_L23 j4) F ((0 : Int32), m_wasSo))
noncomputable def mX8_walks_L2 (j2 : nF → Option (Int32 × nF × nF)) (self22 : (Int32 × nF) → Option (Int32 × nF × nF)) (x21 : (Int32 × nF)) : Option (Int32 × nF × nF) :=
  if (36 : Int32) ≤ x21.1 then (j2 x21.2) else (gd (inb x21.1 36) (self22 (x21.1 + (1 : Int32), (upd x21.2 x21.1.toNatClampNeg (0 : Int32)))))
noncomputable def mX8_walks (F : Nat) (m_s : nF) (m_visits : nF) (m_wasSo : nF) : Option (Int32 × nF × nF) :=
  jn (mX8_walks_K21 F m_s m_wasSo) (fun j2 => lpr (mX8_walks_L2 j2) F ((0 : Int32), m_visits))

noncomputable def mX8_walkCells_L4 (m_s : nF) (m_visits : nF) (self2 : (Int32 × Int32) → Option Int32) (x1 : (Int32 × Int32)) : Option Int32 :=
  (mX8_cells m_s).bind fun r3 => if r3 ≤ x1.2 then (some x1.1) else (gd (inb x1.2 36) (self2 (x1.1 + (m_visits x1.2.toNatClampNeg), x1.2 + (1 : Int32))))
noncomputable def mX8_walkCells (F : Nat) (m_s : nF) (m_visits : nF) : Option Int32 :=
  lpr (mX8_walkCells_L4 m_s m_visits) F ((0 : Int32), (0 : Int32))

noncomputable def mX8_walkFault_L4 (m_s : nF) (m_visits : nF) (self2 : (Int32 × Int32) → Option Int32) (x1 : (Int32 × Int32)) : Option Int32 :=
  (mX8_cells m_s).bind fun r3 => if r3 ≤ x1.2 then (some x1.1) else (gd (inb x1.2 36) (jn (fun x4 : Int32 => gd (inb ((6 : Int32) + x1.2) 114) (jn (fun x6 : Int32 => self2 (x1.1 + x6, x1.2 + (1 : Int32))) (fun j7 => if x4 ≤ (m_s ((6 : Int32) + x1.2).toNatClampNeg) then (gd (inb ((6 : Int32) + x1.2) 114) (j7 ((m_s ((6 : Int32) + x1.2).toNatClampNeg) - x4))) else (gd (inb ((6 : Int32) + x1.2) 114) (j7 (x4 - (m_s ((6 : Int32) + x1.2).toNatClampNeg))))))) (fun j5 => if ((3 : Int32) * (m_visits x1.2.toNatClampNeg)) ≤ (9 : Int32) then (gd (inb x1.2 36) (j5 ((3 : Int32) * (m_visits x1.2.toNatClampNeg)))) else (j5 (9 : Int32)))))
noncomputable def mX8_walkFault (F : Nat) (m_s : nF) (m_visits : nF) : Option Int32 :=
  lpr (mX8_walkFault_L4 m_s m_visits) F ((0 : Int32), (0 : Int32))

noncomputable def mX8_triesFor_L45 (F : Nat) (g1 : Int32) (x2 : nF) (self5 : (Int32 × nF × nF × nF × nF × nF × Int32 × Int32 × Int32 × Int32 × Int32) → Option (nF × nF × nF × nF × nF × Int32 × Int32 × Int32 × Int32 × Int32 × nF)) (x4 : (Int32 × nF × nF × nF × nF × nF × Int32 × Int32 × Int32 × Int32 × Int32)) : Option (nF × nF × nF × nF × nF × Int32 × Int32 × Int32 × Int32 × Int32 × nF) :=
  (mX8_cells x4.2.1).bind fun r6 => if ((2 : Int32) * r6) ≤ x4.1 then (some (x4.2.1, x4.2.2.1, x4.2.2.2.1, x4.2.2.2.2.1, x4.2.2.2.2.2.1, x4.2.2.2.2.2.2.1, x4.2.2.2.2.2.2.2.1, x4.2.2.2.2.2.2.2.2.1, x4.2.2.2.2.2.2.2.2.2.1, x4.2.2.2.2.2.2.2.2.2.2, x2)) else ((mX8_second x4.2.1 x4.1).bind fun r7 => jn (fun x8 : (nF × nF × nF × nF × nF × Int32 × Int32 × Int32 × Int32 × Int32) => self5 (x4.1 + (1 : Int32), x8.1, x8.2.1, x8.2.2.1, x8.2.2.2.1, x8.2.2.2.2.1, x8.2.2.2.2.2.1, x8.2.2.2.2.2.2.1, x8.2.2.2.2.2.2.2.1, x8.2.2.2.2.2.2.2.2.1, x8.2.2.2.2.2.2.2.2.2)) (fun j9 => if x4.1 = g1 then (j9 (x4.2.1, x4.2.2.1, x4.2.2.2.1, x4.2.2.2.2.1, x4.2.2.2.2.2.1, x4.2.2.2.2.2.2.1, x4.2.2.2.2.2.2.2.1, x4.2.2.2.2.2.2.2.2.1, x4.2.2.2.2.2.2.2.2.2.1, x4.2.2.2.2.2.2.2.2.2.2)) else (if r7 < 0 then (j9 (x4.2.1, x4.2.2.1, x4.2.2.2.1, x4.2.2.2.2.1, x4.2.2.2.2.2.1, x4.2.2.2.2.2.2.1, x4.2.2.2.2.2.2.2.1, x4.2.2.2.2.2.2.2.2.1, x4.2.2.2.2.2.2.2.2.2.1, x4.2.2.2.2.2.2.2.2.2.2)) else (gd (nz (2 : Int32)) (gd (inb (x4.1 / (2 : Int32)) 36) (gd (inb r7 36) (if (x2 (x4.1 / (2 : Int32)).toNatClampNeg) = (x2 r7.toNatClampNeg) then (j9 (x4.2.1, x4.2.2.1, x4.2.2.2.1, x4.2.2.2.2.1, x4.2.2.2.2.2.1, x4.2.2.2.2.2.2.1, x4.2.2.2.2.2.2.2.1, x4.2.2.2.2.2.2.2.2.1, x4.2.2.2.2.2.2.2.2.2.1, x4.2.2.2.2.2.2.2.2.2.2)) else (gd (inb ((42 : Int32) + x4.1) 114) ((mX8_wayFault F (upd x4.2.1 ((42 : Int32) + x4.1).toNatClampNeg (1 : Int32)) x4.2.2.1 x4.2.2.2.1 x4.2.2.2.2.1 x4.2.2.2.2.2.1 x4.2.2.2.2.2.2.1 x4.2.2.2.2.2.2.2.1).bind fun r10 => gd (inb ((42 : Int32) + x4.1) 114) (if x4.2.2.2.2.2.2.2.2.2.2 ≤ r10.1 then (j9 ((upd (upd x4.2.1 ((42 : Int32) + x4.1).toNatClampNeg (1 : Int32)) ((42 : Int32) + x4.1).toNatClampNeg (0 : Int32)), r10.2.1, r10.2.2.1, r10.2.2.2.1, r10.2.2.2.2.1, r10.2.2.2.2.2.1, r10.2.2.2.2.2.2, x4.2.2.2.2.2.2.2.2.1, x4.2.2.2.2.2.2.2.2.2.1, x4.2.2.2.2.2.2.2.2.2.2)) else (j9 ((upd (upd x4.2.1 ((42 : Int32) + x4.1).toNatClampNeg (1 : Int32)) ((42 : Int32) + x4.1).toNatClampNeg (0 : Int32)), r10.2.1, r10.2.2.1, r10.2.2.2.1, r10.2.2.2.2.1, r10.2.2.2.2.2.1, r10.2.2.2.2.2.2, g1, x4.1, r10.1))))))))))))
noncomputable def mX8_triesFor_K43 (F : Nat) (m_s : nF) (m_isOn : nF) (m_steps : nF) (m_wayCells : Int32) (m_turns : Int32) (m_bestAway : Int32) (m_bestMade : Int32) (m_bestFault : Int32) (g1 : Int32) (r1 : (nF × nF)) (x2 : nF) : Option (nF × nF × nF × nF × nF × Int32 × Int32 × Int32 × Int32 × Int32 × nF) :=
  lpr (mX8_triesFor_L45 F g1 x2) F ((0 : Int32), m_s, r1.1, r1.2, m_isOn, m_steps, m_wayCells, m_turns, m_bestAway, m_bestMade, m_bestFault)
noncomputable def mX8_triesFor_L9 (m_s : nF) (r1 : (nF × nF)) (j3 : nF → Option (nF × nF × nF × nF × nF × Int32 × Int32 × Int32 × Int32 × Int32 × nF)) (self12 : (Int32 × nF) → Option (nF × nF × nF × nF × nF × Int32 × Int32 × Int32 × Int32 × Int32 × nF)) (x11 : (Int32 × nF)) : Option (nF × nF × nF × nF × nF × Int32 × Int32 × Int32 × Int32 × Int32 × nF) :=
  (mX8_cells m_s).bind fun r13 => if r13 ≤ x11.1 then (j3 x11.2) else (gd (inb x11.1 36) (jn (fun x14 : Int32 => gd (inb x11.1 36) (self12 (x11.1 + (1 : Int32), (upd x11.2 x11.1.toNatClampNeg (vp_nar .boolean x14))))) (fun j15 => if (r1.1 x11.1.toNatClampNeg) < 0 then (j15 (0 : Int32)) else (j15 (1 : Int32)))))
noncomputable def mX8_triesFor (F : Nat) (m_s : nF) (m_far : nF) (m_queue : nF) (m_isOn : nF) (m_steps : nF) (m_wayCells : Int32) (m_turns : Int32) (m_bestAway : Int32) (m_bestMade : Int32) (m_bestFault : Int32) (m_isHere : nF) (g1 : Int32) : Option (nF × nF × nF × nF × nF × Int32 × Int32 × Int32 × Int32 × Int32 × nF) :=
  gd (nz (2 : Int32)) ((mX8_measures F m_s m_far m_queue (g1 / (2 : Int32))).bind fun r1 => jn (mX8_triesFor_K43 F m_s m_isOn m_steps m_wayCells m_turns m_bestAway m_bestMade m_bestFault g1 r1) (fun j3 => lpr (mX8_triesFor_L9 m_s r1 j3) F ((0 : Int32), m_isHere)))

noncomputable def mX8_looksForBest_L8 (F : Nat) (self2 : (Int32 × nF × nF × nF × nF × nF × Int32 × Int32 × Int32 × Int32 × Int32 × nF) → Option (nF × nF × nF × nF × nF × Int32 × Int32 × Int32 × Int32 × Int32 × nF)) (x1 : (Int32 × nF × nF × nF × nF × nF × Int32 × Int32 × Int32 × Int32 × Int32 × nF)) : Option (nF × nF × nF × nF × nF × Int32 × Int32 × Int32 × Int32 × Int32 × nF) :=
  (mX8_cells x1.2.1).bind fun r3 => if ((2 : Int32) * r3) ≤ x1.1 then (some (x1.2.1, x1.2.2.1, x1.2.2.2.1, x1.2.2.2.2.1, x1.2.2.2.2.2.1, x1.2.2.2.2.2.2.1, x1.2.2.2.2.2.2.2.1, x1.2.2.2.2.2.2.2.2.1, x1.2.2.2.2.2.2.2.2.2.1, x1.2.2.2.2.2.2.2.2.2.2.1, x1.2.2.2.2.2.2.2.2.2.2.2)) else (gd (inb ((42 : Int32) + x1.1) 114) (jn (fun x4 : (nF × nF × nF × nF × nF × Int32 × Int32 × Int32 × Int32 × Int32 × nF) => self2 (x1.1 + (1 : Int32), x4.1, x4.2.1, x4.2.2.1, x4.2.2.2.1, x4.2.2.2.2.1, x4.2.2.2.2.2.1, x4.2.2.2.2.2.2.1, x4.2.2.2.2.2.2.2.1, x4.2.2.2.2.2.2.2.2.1, x4.2.2.2.2.2.2.2.2.2.1, x4.2.2.2.2.2.2.2.2.2.2)) (fun j5 => if (x1.2.1 ((42 : Int32) + x1.1).toNatClampNeg) = (1 : Int32) then (gd (inb ((42 : Int32) + x1.1) 114) ((mX8_triesFor F (upd x1.2.1 ((42 : Int32) + x1.1).toNatClampNeg (0 : Int32)) x1.2.2.1 x1.2.2.2.1 x1.2.2.2.2.1 x1.2.2.2.2.2.1 x1.2.2.2.2.2.2.1 x1.2.2.2.2.2.2.2.1 x1.2.2.2.2.2.2.2.2.1 x1.2.2.2.2.2.2.2.2.2.1 x1.2.2.2.2.2.2.2.2.2.2.1 x1.2.2.2.2.2.2.2.2.2.2.2 x1.1).bind fun r6 => gd (inb ((42 : Int32) + x1.1) 114) (j5 ((upd r6.1 ((42 : Int32) + x1.1).toNatClampNeg (1 : Int32)), r6.2.1, r6.2.2.1, r6.2.2.2.1, r6.2.2.2.2.1, r6.2.2.2.2.2.1, r6.2.2.2.2.2.2.1, r6.2.2.2.2.2.2.2.1, r6.2.2.2.2.2.2.2.2.1, r6.2.2.2.2.2.2.2.2.2.1, r6.2.2.2.2.2.2.2.2.2.2)))) else (j5 (x1.2.1, x1.2.2.1, x1.2.2.2.1, x1.2.2.2.2.1, x1.2.2.2.2.2.1, x1.2.2.2.2.2.2.1, x1.2.2.2.2.2.2.2.1, x1.2.2.2.2.2.2.2.2.1, x1.2.2.2.2.2.2.2.2.2.1, x1.2.2.2.2.2.2.2.2.2.2.1, x1.2.2.2.2.2.2.2.2.2.2.2)))))
noncomputable def mX8_looksForBest (F : Nat) (m_s : nF) (m_far : nF) (m_queue : nF) (m_isOn : nF) (m_steps : nF) (m_wayCells : Int32) (m_turns : Int32) (m_bestAway : Int32) (m_bestMade : Int32) (m_bestFault : Int32) (m_isHere : nF) : Option (nF × nF × nF × nF × nF × Int32 × Int32 × Int32 × Int32 × Int32 × nF) :=
  lpr (mX8_looksForBest_L8 F) F ((0 : Int32), m_s, m_far, m_queue, m_isOn, m_steps, m_wayCells, m_turns, m_bestAway, m_bestMade, (1000000 : Int32), m_isHere)

noncomputable def mX8_exchanges (m_s : nF) (m_bestAway : Int32) (m_bestMade : Int32) : Option nF :=
  gd (inb ((42 : Int32) + m_bestAway) 114) (gd (inb ((42 : Int32) + m_bestMade) 114) (some (upd (upd m_s ((42 : Int32) + m_bestAway).toNatClampNeg (0 : Int32)) ((42 : Int32) + m_bestMade).toNatClampNeg (1 : Int32))))

noncomputable def mX8_build_K130 (F : Nat) (m_past : nF) (m_states : Int32) (r1 : nF) (x3 : (Int32 × nF × nF × nF)) : Option (Int32 × nF × nF × nF × Int32 × nF × nF) :=
  (mX8_acted F x3.2.1 r1 m_past m_states x3.1).bind fun r5 => some (r5.1, r5.2.1, r1, r5.2.2.1, r5.2.2.2, x3.2.2.1, x3.2.2.2)
noncomputable def mX8_build_K114 (self7 : (Int32 × nF × nF × nF) → Option (Int32 × nF × nF × nF × Int32 × nF × nF)) (x6 : (Int32 × nF × nF × nF)) (x9 : (Int32 × nF × nF)) : Option (Int32 × nF × nF × nF × Int32 × nF × nF) :=
  gd (inb ((42 : Int32) + x9.1) 114) (self7 (x6.1 + (1 : Int32), (upd x6.2.1 ((42 : Int32) + x9.1).toNatClampNeg (1 : Int32)), x9.2.1, x9.2.2))
noncomputable def mX8_build_L30 (F : Nat) (x6 : (Int32 × nF × nF × nF)) (j10 : (Int32 × nF × nF) → Option (Int32 × nF × nF × nF × Int32 × nF × nF)) (self12 : (Int32 × Int32 × Int32 × nF × nF) → Option (Int32 × nF × nF × nF × Int32 × nF × nF)) (x11 : (Int32 × Int32 × Int32 × nF × nF)) : Option (Int32 × nF × nF × nF × Int32 × nF × nF) :=
  (mX8_cells x6.2.1).bind fun r13 => if ((2 : Int32) * r13) ≤ x11.2.2.1 then (j10 (x11.1, x11.2.2.2.1, x11.2.2.2.2)) else ((mX8_second x6.2.1 x11.2.2.1).bind fun r14 => jn (fun x15 : Int32 => jn (fun x17 : (Int32 × Int32 × nF × nF) => self12 (x17.1, x17.2.1, x11.2.2.1 + (1 : Int32), x17.2.2.1, x17.2.2.2)) (fun j18 => if x15 ≤ x11.2.1 then (j18 (x11.1, x11.2.1, x11.2.2.2.1, x11.2.2.2.2)) else (gd (nz (2 : Int32)) ((mX8_areJoined F x6.2.1 x11.2.2.2.1 x11.2.2.2.2 (x11.2.2.1 / (2 : Int32)) r14).bind fun r19 => if r19.1 = 0 then (j18 (x11.2.2.1, x15, r19.2.1, r19.2.2)) else (j18 (x11.1, x11.2.1, r19.2.1, r19.2.2)))))) (fun j16 => if 0 ≤ r14 then (gd (nz (2 : Int32)) (gd (inb ((6 : Int32) + (x11.2.2.1 / (2 : Int32))) 114) (gd (inb ((6 : Int32) + r14) 114) (j16 ((x6.2.1 ((6 : Int32) + (x11.2.2.1 / (2 : Int32))).toNatClampNeg) + (x6.2.1 ((6 : Int32) + r14).toNatClampNeg)))))) else (j16 (-1 : Int32))))
noncomputable def mX8_build_L16 (F : Nat) (j4 : (Int32 × nF × nF × nF) → Option (Int32 × nF × nF × nF × Int32 × nF × nF)) (self7 : (Int32 × nF × nF × nF) → Option (Int32 × nF × nF × nF × Int32 × nF × nF)) (x6 : (Int32 × nF × nF × nF)) : Option (Int32 × nF × nF × nF × Int32 × nF × nF) :=
  (mX8_isWhole F x6.2.1).bind fun r8 => if r8 = 0 then (jn (mX8_build_K114 self7 x6) (fun j10 => lpr (mX8_build_L30 F x6 j10) F ((-1 : Int32), (-1 : Int32), (0 : Int32), x6.2.2.1, x6.2.2.2))) else (j4 (x6.1, x6.2.1, x6.2.2.1, x6.2.2.2))
noncomputable def mX8_build (F : Nat) (m_s : nF) (m_begun : nF) (m_past : nF) (m_states : Int32) (m_far : nF) (m_queue : nF) : Option (Int32 × nF × nF × nF × Int32 × nF × nF) :=
  (mX8_begins F m_s m_begun).bind fun r1 => (mX8_isWhole F m_s).bind fun r2 => if r2 = 0 then (jn (mX8_build_K130 F m_past m_states r1) (fun j4 => lpr (mX8_build_L16 F j4) F ((0 : Int32), m_s, m_far, m_queue))) else (some ((-2 : Int32), m_s, r1, m_past, m_states, m_far, m_queue))

noncomputable def mX8_exchange (F : Nat) (m_s : nF) (m_begun : nF) (m_past : nF) (m_states : Int32) (m_far : nF) (m_queue : nF) (m_isOn : nF) (m_steps : nF) (m_wayCells : Int32) (m_turns : Int32) (m_bestAway : Int32) (m_bestMade : Int32) (m_bestFault : Int32) (m_isHere : nF) : Option (Int32 × nF × nF × nF × Int32 × nF × nF × nF × nF × Int32 × Int32 × Int32 × Int32 × Int32 × nF) :=
  (mX8_begins F m_s m_begun).bind fun r1 => (mX8_isWhole F m_s).bind fun r2 => if r2 = 0 then (some ((-2 : Int32), m_s, r1, m_past, m_states, m_far, m_queue, m_isOn, m_steps, m_wayCells, m_turns, m_bestAway, m_bestMade, m_bestFault, m_isHere)) else ((mX8_looksForBest F m_s m_far m_queue m_isOn m_steps m_wayCells m_turns m_bestAway m_bestMade m_bestFault m_isHere).bind fun r3 => (mX8_wayFault F r3.1 r3.2.1 r3.2.2.1 r3.2.2.2.1 r3.2.2.2.2.1 r3.2.2.2.2.2.1 r3.2.2.2.2.2.2.1).bind fun r4 => if r3.2.2.2.2.2.2.2.2.2.1 < r4.1 then ((mX8_exchanges r3.1 r3.2.2.2.2.2.2.2.1 r3.2.2.2.2.2.2.2.2.1).bind fun r5 => (mX8_wayFault F r5 r4.2.1 r4.2.2.1 r4.2.2.2.1 r4.2.2.2.2.1 r4.2.2.2.2.2.1 r4.2.2.2.2.2.2).bind fun r6 => (mX8_acted F r5 r1 m_past m_states r6.1).bind fun r7 => some (r7.1, r7.2.1, r1, r7.2.2.1, r7.2.2.2, r6.2.1, r6.2.2.1, r6.2.2.2.1, r6.2.2.2.2.1, r6.2.2.2.2.2.1, r6.2.2.2.2.2.2, r3.2.2.2.2.2.2.2.1, r3.2.2.2.2.2.2.2.2.1, r3.2.2.2.2.2.2.2.2.2.1, r3.2.2.2.2.2.2.2.2.2.2)) else (some ((-2 : Int32), r3.1, r1, m_past, m_states, r4.2.1, r4.2.2.1, r4.2.2.2.1, r4.2.2.2.2.1, r4.2.2.2.2.2.1, r4.2.2.2.2.2.2, r3.2.2.2.2.2.2.2.1, r3.2.2.2.2.2.2.2.2.1, r3.2.2.2.2.2.2.2.2.2.1, r3.2.2.2.2.2.2.2.2.2.2)))

noncomputable def mX8_improve_K45 (F : Nat) (m_past : nF) (m_states : Int32) (r1 : nF) (x4 : (Int32 × nF × nF × nF × nF × nF × Int32 × Int32 × Int32 × Int32 × Int32 × nF)) : Option (Int32 × nF × nF × nF × Int32 × nF × nF × nF × nF × Int32 × Int32 × Int32 × Int32 × Int32 × nF) :=
  (mX8_acted F x4.2.1 r1 m_past m_states x4.1).bind fun r6 => some (r6.1, r6.2.1, r1, r6.2.2.1, r6.2.2.2, x4.2.2.1, x4.2.2.2.1, x4.2.2.2.2.1, x4.2.2.2.2.2.1, x4.2.2.2.2.2.2.1, x4.2.2.2.2.2.2.2.1, x4.2.2.2.2.2.2.2.2.1, x4.2.2.2.2.2.2.2.2.2.1, x4.2.2.2.2.2.2.2.2.2.2.1, x4.2.2.2.2.2.2.2.2.2.2.2)
noncomputable def mX8_improve_L20 (F : Nat) (j5 : (Int32 × nF × nF × nF × nF × nF × Int32 × Int32 × Int32 × Int32 × Int32 × nF) → Option (Int32 × nF × nF × nF × Int32 × nF × nF × nF × nF × Int32 × Int32 × Int32 × Int32 × Int32 × nF)) (self8 : (Int32 × nF × nF × nF × nF × nF × Int32 × Int32 × Int32 × Int32 × Int32 × nF) → Option (Int32 × nF × nF × nF × Int32 × nF × nF × nF × nF × Int32 × Int32 × Int32 × Int32 × Int32 × nF)) (x7 : (Int32 × nF × nF × nF × nF × nF × Int32 × Int32 × Int32 × Int32 × Int32 × nF)) : Option (Int32 × nF × nF × nF × Int32 × nF × nF × nF × nF × Int32 × Int32 × Int32 × Int32 × Int32 × nF) :=
  (mX8_wayFault F x7.2.1 x7.2.2.1 x7.2.2.2.1 x7.2.2.2.2.1 x7.2.2.2.2.2.1 x7.2.2.2.2.2.2.1 x7.2.2.2.2.2.2.2.1).bind fun r9 => if r9.1 ≤ x7.2.2.2.2.2.2.2.2.2.2.1 then (j5 (x7.1, x7.2.1, r9.2.1, r9.2.2.1, r9.2.2.2.1, r9.2.2.2.2.1, r9.2.2.2.2.2.1, r9.2.2.2.2.2.2, x7.2.2.2.2.2.2.2.2.1, x7.2.2.2.2.2.2.2.2.2.1, x7.2.2.2.2.2.2.2.2.2.2.1, x7.2.2.2.2.2.2.2.2.2.2.2)) else ((mX8_exchanges x7.2.1 x7.2.2.2.2.2.2.2.2.1 x7.2.2.2.2.2.2.2.2.2.1).bind fun r10 => (mX8_looksForBest F r10 r9.2.1 r9.2.2.1 r9.2.2.2.1 r9.2.2.2.2.1 r9.2.2.2.2.2.1 r9.2.2.2.2.2.2 x7.2.2.2.2.2.2.2.2.1 x7.2.2.2.2.2.2.2.2.2.1 x7.2.2.2.2.2.2.2.2.2.2.1 x7.2.2.2.2.2.2.2.2.2.2.2).bind fun r11 => self8 (x7.1 + (1 : Int32), r11.1, r11.2.1, r11.2.2.1, r11.2.2.2.1, r11.2.2.2.2.1, r11.2.2.2.2.2.1, r11.2.2.2.2.2.2.1, r11.2.2.2.2.2.2.2.1, r11.2.2.2.2.2.2.2.2.1, r11.2.2.2.2.2.2.2.2.2.1, r11.2.2.2.2.2.2.2.2.2.2))
noncomputable def mX8_improve (F : Nat) (m_s : nF) (m_begun : nF) (m_past : nF) (m_states : Int32) (m_far : nF) (m_queue : nF) (m_isOn : nF) (m_steps : nF) (m_wayCells : Int32) (m_turns : Int32) (m_bestAway : Int32) (m_bestMade : Int32) (m_bestFault : Int32) (m_isHere : nF) : Option (Int32 × nF × nF × nF × Int32 × nF × nF × nF × nF × Int32 × Int32 × Int32 × Int32 × Int32 × nF) :=
  (mX8_begins F m_s m_begun).bind fun r1 => (mX8_isWhole F m_s).bind fun r2 => if r2 = 0 then (some ((-2 : Int32), m_s, r1, m_past, m_states, m_far, m_queue, m_isOn, m_steps, m_wayCells, m_turns, m_bestAway, m_bestMade, m_bestFault, m_isHere)) else ((mX8_looksForBest F m_s m_far m_queue m_isOn m_steps m_wayCells m_turns m_bestAway m_bestMade m_bestFault m_isHere).bind fun r3 => jn (mX8_improve_K45 F m_past m_states r1) (fun j5 => lpr (mX8_improve_L20 F j5) F ((0 : Int32), r3.1, r3.2.1, r3.2.2.1, r3.2.2.2.1, r3.2.2.2.2.1, r3.2.2.2.2.2.1, r3.2.2.2.2.2.2.1, r3.2.2.2.2.2.2.2.1, r3.2.2.2.2.2.2.2.2.1, r3.2.2.2.2.2.2.2.2.2.1, r3.2.2.2.2.2.2.2.2.2.2)))

noncomputable def mX8_best (F : Nat) (m_s : nF) (m_far : nF) (m_queue : nF) (m_isOn : nF) (m_steps : nF) (m_wayCells : Int32) (m_turns : Int32) (m_bestAway : Int32) (m_bestMade : Int32) (m_bestFault : Int32) (m_isHere : nF) (g1 : Int32) : Option (Int32 × nF × nF × nF × nF × nF × Int32 × Int32 × Int32 × Int32 × Int32 × nF) :=
  (mX8_in g1 (0 : Int32) (2 : Int32)).bind fun r1 => if r1 = 0 then (some ((-1 : Int32), m_s, m_far, m_queue, m_isOn, m_steps, m_wayCells, m_turns, m_bestAway, m_bestMade, m_bestFault, m_isHere)) else ((mX8_isWhole F m_s).bind fun r2 => if r2 = 0 then (some ((-2 : Int32), m_s, m_far, m_queue, m_isOn, m_steps, m_wayCells, m_turns, m_bestAway, m_bestMade, m_bestFault, m_isHere)) else ((mX8_looksForBest F m_s m_far m_queue m_isOn m_steps m_wayCells m_turns m_bestAway m_bestMade m_bestFault m_isHere).bind fun r3 => jn (fun x4 : Int32 => some (x4, r3.1, r3.2.1, r3.2.2.1, r3.2.2.2.1, r3.2.2.2.2.1, r3.2.2.2.2.2.1, r3.2.2.2.2.2.2.1, r3.2.2.2.2.2.2.2.1, r3.2.2.2.2.2.2.2.2.1, r3.2.2.2.2.2.2.2.2.2.1, r3.2.2.2.2.2.2.2.2.2.2)) (fun j5 => if g1 = 0 then (j5 r3.2.2.2.2.2.2.2.1) else (if g1 = (1 : Int32) then (j5 r3.2.2.2.2.2.2.2.2.1) else (j5 r3.2.2.2.2.2.2.2.2.2.1)))))

noncomputable def mX8_tone (F : Nat) (m_s : nF) (m_begun : nF) (m_past : nF) (m_states : Int32) (g1 : Int32) (g2 : Int32) : Option (Int32 × nF × nF × nF × Int32) :=
  (mX8_begins F m_s m_begun).bind fun r1 => (mX8_isCell m_s g1).bind fun r2 => jn (fun x3 : Unit => some ((-1 : Int32), m_s, r1, m_past, m_states)) (fun j4 => if r2 = 0 then (j4 ()) else ((mX8_in g2 (0 : Int32) (9 : Int32)).bind fun r5 => if r5 = 0 then (j4 ()) else (gd (inb ((6 : Int32) + g1) 114) (gd (inb ((6 : Int32) + g1) 114) ((mX8_acted F (upd m_s ((6 : Int32) + g1).toNatClampNeg g2) r1 m_past m_states (m_s ((6 : Int32) + g1).toNatClampNeg)).bind fun r6 => some (r6.1, r6.2.1, r1, r6.2.2.1, r6.2.2.2))))))

noncomputable def mX8_carve (F : Nat) (m_s : nF) (m_begun : nF) (m_past : nF) (m_states : Int32) (m_far : nF) (m_queue : nF) (g1 : Int32) (g2 : Int32) : Option (Int32 × nF × nF × nF × Int32 × nF × nF) :=
  (mX8_begins F m_s m_begun).bind fun r1 => (mX8_isCell m_s g1).bind fun r2 => jn (fun x3 : Unit => some ((-1 : Int32), m_s, r1, m_past, m_states, m_far, m_queue)) (fun j4 => if r2 = 0 then (j4 ()) else ((mX8_in g2 (0 : Int32) (3 : Int32)).bind fun r5 => if r5 = 0 then (j4 ()) else ((mX8_besides m_s g1 g2).bind fun r6 => jn (fun x7 : (nF × nF) => some ((-2 : Int32), m_s, r1, m_past, m_states, x7.1, x7.2)) (fun j8 => if r6 < 0 then (j8 (m_far, m_queue)) else ((mX8_areJoined F m_s m_far m_queue g1 r6).bind fun r9 => if r9.1 = 0 then ((mX8_numberOf m_s g1 g2).bind fun r10 => gd (inb ((42 : Int32) + r10) 114) ((mX8_parts F (upd m_s ((42 : Int32) + r10).toNatClampNeg (1 : Int32))).bind fun r11 => (mX8_acted F (upd m_s ((42 : Int32) + r10).toNatClampNeg (1 : Int32)) r1 m_past m_states r11).bind fun r12 => some (r12.1, r12.2.1, r1, r12.2.2.1, r12.2.2.2, r9.2.1, r9.2.2))) else (j8 (r9.2.1, r9.2.2)))))))

noncomputable def mX8_wall (F : Nat) (m_s : nF) (m_begun : nF) (m_past : nF) (m_states : Int32) (g1 : Int32) (g2 : Int32) : Option (Int32 × nF × nF × nF × Int32) :=
  (mX8_begins F m_s m_begun).bind fun r1 => (mX8_isCell m_s g1).bind fun r2 => jn (fun x3 : Unit => some ((-1 : Int32), m_s, r1, m_past, m_states)) (fun j4 => if r2 = 0 then (j4 ()) else ((mX8_in g2 (0 : Int32) (3 : Int32)).bind fun r5 => if r5 = 0 then (j4 ()) else ((mX8_isOpen m_s g1 g2).bind fun r6 => if r6 = 0 then (some ((-2 : Int32), m_s, r1, m_past, m_states)) else ((mX8_numberOf m_s g1 g2).bind fun r7 => gd (inb ((42 : Int32) + r7) 114) ((mX8_parts F (upd m_s ((42 : Int32) + r7).toNatClampNeg (0 : Int32))).bind fun r8 => (mX8_acted F (upd m_s ((42 : Int32) + r7).toNatClampNeg (0 : Int32)) r1 m_past m_states r8).bind fun r9 => some (r9.1, r9.2.1, r1, r9.2.2.1, r9.2.2.2))))))

noncomputable def mX8_door (F : Nat) (m_s : nF) (m_begun : nF) (m_past : nF) (m_states : Int32) (g1 : Int32) (g2 : Int32) (g3 : Int32) : Option (Int32 × nF × nF × nF × Int32) :=
  (mX8_begins F m_s m_begun).bind fun r1 => (mX8_in g1 (0 : Int32) (1 : Int32)).bind fun r2 => jn (fun x3 : Unit => some ((-1 : Int32), m_s, r1, m_past, m_states)) (fun j4 => if r2 = 0 then (j4 ()) else ((mX8_isCell m_s g2).bind fun r5 => if r5 = 0 then (j4 ()) else ((mX8_in g3 (0 : Int32) (3 : Int32)).bind fun r6 => if r6 = 0 then (j4 ()) else ((mX8_besides m_s g2 g3).bind fun r7 => jn (fun x8 : Unit => some ((-2 : Int32), m_s, r1, m_past, m_states)) (fun j9 => if 0 ≤ r7 then (j9 ()) else (gd (inb ((4 : Int32) - ((2 : Int32) * g1)) 114) (jn (fun x10 : Unit => gd (inb ((2 : Int32) + ((2 : Int32) * g1)) 114) (gd (inb ((2 : Int32) + ((2 : Int32) * g1)) 114) (gd (inb (((2 : Int32) + ((2 : Int32) * g1)) + (1 : Int32)) 114) ((mX8_acted F (upd (upd m_s ((2 : Int32) + ((2 : Int32) * g1)).toNatClampNeg g2) (((2 : Int32) + ((2 : Int32) * g1)) + (1 : Int32)).toNatClampNeg g3) r1 m_past m_states (m_s ((2 : Int32) + ((2 : Int32) * g1)).toNatClampNeg)).bind fun r12 => some (r12.1, r12.2.1, r1, r12.2.2.1, r12.2.2.2))))) (fun j11 => if (m_s ((4 : Int32) - ((2 : Int32) * g1)).toNatClampNeg) = g2 then (gd (inb (((4 : Int32) - ((2 : Int32) * g1)) + (1 : Int32)) 114) (if (m_s (((4 : Int32) - ((2 : Int32) * g1)) + (1 : Int32)).toNatClampNeg) = g3 then (j9 ()) else (j11 ()))) else (j11 ())))))))))

noncomputable def mX8_directions_L4 (m_s : nF) (g1 : Int32) (self2 : (Int32 × Int32) → Option Int32) (x1 : (Int32 × Int32)) : Option Int32 :=
  if (4 : Int32) ≤ x1.2 then (some x1.1) else ((mX8_isOpen m_s g1 x1.2).bind fun r3 => jn (fun x4 : Int32 => self2 (x1.1 ||| x4, x1.2 + (1 : Int32))) (fun j5 => if r3 = 0 then (j5 (0 : Int32)) else (j5 ((1 : Int32) <<< (x1.2 &&& 31)))))
noncomputable def mX8_directions (F : Nat) (m_s : nF) (g1 : Int32) : Option Int32 :=
  lpr (mX8_directions_L4 m_s g1) F ((0 : Int32), (0 : Int32))

noncomputable def mX8_partOf_K69 (g2 : Int32) (r1 : (nF × nF)) (x2 : (Int32 × Int32)) : Option (Int32 × nF × nF) :=
  jn (fun x4 : Int32 => some (x4, r1.1, r1.2)) (fun j5 => if g2 = 0 then (j5 x2.2) else (j5 x2.1))
noncomputable def mX8_partOf_L13 (m_s : nF) (r1 : (nF × nF)) (j3 : (Int32 × Int32) → Option (Int32 × nF × nF)) (self7 : (Int32 × Int32 × Int32) → Option (Int32 × nF × nF)) (x6 : (Int32 × Int32 × Int32)) : Option (Int32 × nF × nF) :=
  (mX8_cells m_s).bind fun r8 => if r8 ≤ x6.2.2 then (j3 (x6.1, x6.2.1)) else (jn (fun x9 : Int32 => gd (inb x6.2.2 36) (jn (fun x11 : Int32 => self7 (x9, x6.2.1 + x11, x6.2.2 + (1 : Int32))) (fun j12 => if (r1.1 x6.2.2.toNatClampNeg) < 0 then (j12 (0 : Int32)) else (j12 (1 : Int32))))) (fun j10 => jn (fun x13 : Unit => j10 x6.1) (fun j14 => if 0 ≤ x6.1 then (j14 ()) else (gd (inb x6.2.2 36) (if (r1.1 x6.2.2.toNatClampNeg) < 0 then (j14 ()) else (j10 x6.2.2))))))
noncomputable def mX8_partOf (F : Nat) (m_s : nF) (m_far : nF) (m_queue : nF) (g1 : Int32) (g2 : Int32) : Option (Int32 × nF × nF) :=
  (mX8_measures F m_s m_far m_queue g1).bind fun r1 => jn (mX8_partOf_K69 g2 r1) (fun j3 => lpr (mX8_partOf_L13 m_s r1 j3) F ((-1 : Int32), (0 : Int32), (0 : Int32)))

noncomputable def mX8_orNone (g0 : Int32) : Option Int32 :=
  jn (fun x1 : Int32 => some x1) (fun j2 => if 0 ≤ g0 then (j2 g0) else (j2 (-4 : Int32)))

noncomputable def mX8_onWay (F : Nat) (m_s : nF) (m_far : nF) (m_queue : nF) (m_isOn : nF) (m_steps : nF) (m_wayCells : Int32) (m_turns : Int32) (g1 : Int32) : Option (Int32 × nF × nF × nF × nF × Int32 × Int32) :=
  gd (inb (4 : Int32) 114) ((mX8_findsWay F m_s m_far m_queue m_isOn m_steps m_wayCells m_turns (m_s (4 : Int32).toNatClampNeg)).bind fun r1 => gd (inb g1 36) (jn (fun x2 : Int32 => some (x2, r1.2.1, r1.2.2.1, r1.2.2.2.1, r1.2.2.2.2.1, r1.2.2.2.2.2.1, r1.2.2.2.2.2.2)) (fun j3 => if (r1.2.2.2.1 g1.toNatClampNeg) = 0 then (j3 (0 : Int32)) else (j3 (1 : Int32)))))

noncomputable def mX8_cellOf (F : Nat) (m_s : nF) (m_far : nF) (m_queue : nF) (m_isOn : nF) (m_steps : nF) (m_wayCells : Int32) (m_turns : Int32) (m_visits : nF) (m_wasSo : nF) (g1 : Int32) (g2 : Int32) : Option (Int32 × nF × nF × nF × nF × Int32 × Int32 × nF × nF) :=
  (mX8_isCell m_s g1).bind fun r1 => jn (fun x2 : Unit => some ((-1 : Int32), m_far, m_queue, m_isOn, m_steps, m_wayCells, m_turns, m_visits, m_wasSo)) (fun j3 => if r1 = 0 then (j3 ()) else ((mX8_in g2 (0 : Int32) (6 : Int32)).bind fun r4 => if r4 = 0 then (j3 ()) else (if g2 = (0 : Int32) then (gd (inb ((6 : Int32) + g1) 114) (some (m_s ((6 : Int32) + g1).toNatClampNeg, m_far, m_queue, m_isOn, m_steps, m_wayCells, m_turns, m_visits, m_wasSo))) else if g2 = (1 : Int32) then ((mX8_directions F m_s g1).bind fun r7 => some (r7, m_far, m_queue, m_isOn, m_steps, m_wayCells, m_turns, m_visits, m_wasSo)) else if g2 = (2 : Int32) then ((mX8_partOf F m_s m_far m_queue g1 (1 : Int32)).bind fun r9 => some (r9.1, r9.2.1, r9.2.2, m_isOn, m_steps, m_wayCells, m_turns, m_visits, m_wasSo)) else if g2 = (3 : Int32) then ((mX8_partOf F m_s m_far m_queue g1 (0 : Int32)).bind fun r11 => some (r11.1, r11.2.1, r11.2.2, m_isOn, m_steps, m_wayCells, m_turns, m_visits, m_wasSo)) else if g2 = (4 : Int32) then (gd (inb (2 : Int32) 114) ((mX8_measures F m_s m_far m_queue (m_s (2 : Int32).toNatClampNeg)).bind fun r13 => gd (inb g1 36) ((mX8_orNone (r13.1 g1.toNatClampNeg)).bind fun r14 => some (r14, r13.1, r13.2, m_isOn, m_steps, m_wayCells, m_turns, m_visits, m_wasSo)))) else if g2 = (5 : Int32) then ((mX8_onWay F m_s m_far m_queue m_isOn m_steps m_wayCells m_turns g1).bind fun r16 => some (r16.1, r16.2.1, r16.2.2.1, r16.2.2.2.1, r16.2.2.2.2.1, r16.2.2.2.2.2.1, r16.2.2.2.2.2.2, m_visits, m_wasSo)) else ((mX8_walks F m_s m_visits m_wasSo).bind fun r17 => jn (fun x18 : Int32 => some (x18, m_far, m_queue, m_isOn, m_steps, m_wayCells, m_turns, r17.2.1, r17.2.2)) (fun j19 => if r17.1 = 0 then (j19 (-4 : Int32)) else (gd (inb g1 36) (j19 (r17.2.1 g1.toNatClampNeg))))))))

noncomputable def mX8_doorOf (m_s : nF) (g1 : Int32) (g2 : Int32) : Option Int32 :=
  (mX8_in g1 (0 : Int32) (1 : Int32)).bind fun r1 => jn (fun x2 : Int32 => some x2) (fun j3 => jn (fun x4 : Unit => j3 (-1 : Int32)) (fun j5 => if r1 = 0 then (j5 ()) else ((mX8_in g2 (0 : Int32) (1 : Int32)).bind fun r6 => if r6 = 0 then (j5 ()) else (gd (inb (((2 : Int32) + ((2 : Int32) * g1)) + g2) 114) (j3 (m_s (((2 : Int32) + ((2 : Int32) * g1)) + g2).toNatClampNeg))))))

noncomputable def mX8_ends_L4 (F : Nat) (m_s : nF) (self2 : (Int32 × Int32) → Option Int32) (x1 : (Int32 × Int32)) : Option Int32 :=
  (mX8_cells m_s).bind fun r3 => if r3 ≤ x1.2 then (some x1.1) else ((mX8_directions F m_s x1.2).bind fun r4 => jn (fun x5 : Int32 => self2 (x1.1 + x5, x1.2 + (1 : Int32))) (fun j6 => jn (fun x7 : Unit => j6 (1 : Int32)) (fun j8 => if r4 = (1 : Int32) then (j8 ()) else (if r4 = (2 : Int32) then (j8 ()) else (if r4 = (4 : Int32) then (j8 ()) else (if r4 = (8 : Int32) then (j8 ()) else (j6 (0 : Int32))))))))
noncomputable def mX8_ends (F : Nat) (m_s : nF) : Option Int32 :=
  lpr (mX8_ends_L4 F m_s) F ((0 : Int32), (0 : Int32))

noncomputable def mX8_tones_L4 (m_s : nF) (self2 : (Int32 × Int32) → Option Int32) (x1 : (Int32 × Int32)) : Option Int32 :=
  (mX8_cells m_s).bind fun r3 => if r3 ≤ x1.2 then (some x1.1) else (gd (inb ((6 : Int32) + x1.2) 114) (self2 (x1.1 + (m_s ((6 : Int32) + x1.2).toNatClampNeg), x1.2 + (1 : Int32))))
noncomputable def mX8_tones (F : Nat) (m_s : nF) : Option Int32 :=
  lpr (mX8_tones_L4 m_s) F ((0 : Int32), (0 : Int32))

noncomputable def mX8_count (F : Nat) (m_s : nF) (m_isKept : Int32) (m_states : Int32) (m_length : Int32) (g1 : Int32) : Option Int32 :=
  if g1 = (0 : Int32) then (gd (inb g1 114) (some (m_s g1.toNatClampNeg))) else if g1 = (1 : Int32) then (gd (inb g1 114) (some (m_s g1.toNatClampNeg))) else if g1 = (2 : Int32) then ((mX8_passages F m_s).bind fun r4 => some r4) else if g1 = (3 : Int32) then ((mX8_parts F m_s).bind fun r6 => some r6) else if g1 = (4 : Int32) then ((mX8_isWhole F m_s).bind fun r8 => jn (fun x9 : Int32 => some x9) (fun j10 => if r8 = 0 then (j10 (0 : Int32)) else (j10 (1 : Int32)))) else if g1 = (5 : Int32) then ((mX8_ends F m_s).bind fun r12 => some r12) else if g1 = (6 : Int32) then ((mX8_tones F m_s).bind fun r14 => some r14) else if g1 = (7 : Int32) then (some m_states) else if g1 = (8 : Int32) then (some m_length) else (jn (fun x17 : Int32 => some x17) (fun j18 => if g1 = (9 : Int32) then (if m_isKept = 0 then (j18 (0 : Int32)) else (j18 (1 : Int32))) else (j18 (-1 : Int32))))

noncomputable def mX8_way (F : Nat) (m_s : nF) (m_far : nF) (m_queue : nF) (m_isOn : nF) (m_steps : nF) (m_wayCells : Int32) (m_turns : Int32) (g1 : Int32) : Option (Int32 × nF × nF × nF × nF × Int32 × Int32) :=
  if 0 ≤ g1 then (gd (inb (4 : Int32) 114) ((mX8_findsWay F m_s m_far m_queue m_isOn m_steps m_wayCells m_turns (m_s (4 : Int32).toNatClampNeg)).bind fun r1 => jn (fun x2 : Int32 => some (x2, r1.2.1, r1.2.2.1, r1.2.2.2.1, r1.2.2.2.2.1, r1.2.2.2.2.2.1, r1.2.2.2.2.2.2)) (fun j3 => jn (fun x4 : Unit => j3 (-4 : Int32)) (fun j5 => if r1.1 = 0 then (j5 ()) else (if r1.2.2.2.2.2.1 ≤ g1 then (j5 ()) else (gd (inb g1 36) (j3 (r1.2.2.2.2.1 g1.toNatClampNeg)))))))) else (some ((-1 : Int32), m_far, m_queue, m_isOn, m_steps, m_wayCells, m_turns))

noncomputable def mX8_drawn (F : Nat) (m_s : nF) (m_far : nF) (m_queue : nF) (m_isOn : nF) (m_steps : nF) (m_wayCells : Int32) (m_turns : Int32) (m_visits : nF) (m_wasSo : nF) (g1 : Int32) : Option (Int32 × nF × nF × nF × nF × Int32 × Int32 × nF × nF) :=
  if g1 = (0 : Int32) then (gd (inb (4 : Int32) 114) ((mX8_findsWay F m_s m_far m_queue m_isOn m_steps m_wayCells m_turns (m_s (4 : Int32).toNatClampNeg)).bind fun r2 => jn (fun x3 : Int32 => some (x3, r2.2.1, r2.2.2.1, r2.2.2.2.1, r2.2.2.2.2.1, r2.2.2.2.2.2.1, r2.2.2.2.2.2.2, m_visits, m_wasSo)) (fun j4 => if r2.1 = 0 then (j4 (-4 : Int32)) else (j4 r2.2.2.2.2.2.1)))) else if g1 = (1 : Int32) then ((mX8_wayFault F m_s m_far m_queue m_isOn m_steps m_wayCells m_turns).bind fun r6 => some (r6.1, r6.2.1, r6.2.2.1, r6.2.2.2.1, r6.2.2.2.2.1, r6.2.2.2.2.2.1, r6.2.2.2.2.2.2, m_visits, m_wasSo)) else if g1 = (2 : Int32) then ((mX8_walks F m_s m_visits m_wasSo).bind fun r8 => jn (fun x9 : Int32 => some (x9, m_far, m_queue, m_isOn, m_steps, m_wayCells, m_turns, r8.2.1, r8.2.2)) (fun j10 => if r8.1 = 0 then (j10 (-4 : Int32)) else ((mX8_walkCells F m_s r8.2.1).bind fun r11 => j10 r11))) else if g1 = (3 : Int32) then ((mX8_walks F m_s m_visits m_wasSo).bind fun r13 => jn (fun x14 : Int32 => some (x14, m_far, m_queue, m_isOn, m_steps, m_wayCells, m_turns, r13.2.1, r13.2.2)) (fun j15 => if r13.1 = 0 then (j15 (-4 : Int32)) else ((mX8_walkFault F m_s r13.2.1).bind fun r16 => j15 r16))) else if g1 = (4 : Int32) then (gd (inb (4 : Int32) 114) ((mX8_findsWay F m_s m_far m_queue m_isOn m_steps m_wayCells m_turns (m_s (4 : Int32).toNatClampNeg)).bind fun r18 => jn (fun x19 : Int32 => some (x19, r18.2.1, r18.2.2.1, r18.2.2.2.1, r18.2.2.2.2.1, r18.2.2.2.2.2.1, r18.2.2.2.2.2.2, m_visits, m_wasSo)) (fun j20 => if r18.1 = 0 then (j20 (-4 : Int32)) else (j20 r18.2.2.2.2.2.2)))) else (some ((-1 : Int32), m_far, m_queue, m_isOn, m_steps, m_wayCells, m_turns, m_visits, m_wasSo))

noncomputable def mX8_between (F : Nat) (m_s : nF) (m_far : nF) (m_queue : nF) (g1 : Int32) (g2 : Int32) : Option (Int32 × nF × nF) :=
  (mX8_isCell m_s g1).bind fun r1 => jn (fun x2 : Unit => some ((-1 : Int32), m_far, m_queue)) (fun j3 => if r1 = 0 then (j3 ()) else ((mX8_isCell m_s g2).bind fun r4 => if r4 = 0 then (j3 ()) else ((mX8_measures F m_s m_far m_queue g1).bind fun r5 => gd (inb g2 36) ((mX8_orNone (r5.1 g2.toNatClampNeg)).bind fun r6 => some (r6, r5.1, r5.2)))))

noncomputable def mX8_farthest_K90 (g1 : Int32) (x2 : (Int32 × Int32 × Int32 × nF × nF)) : Option (Int32 × nF × nF) :=
  jn (fun x4 : Int32 => some (x4, x2.2.2.2.1, x2.2.2.2.2)) (fun j5 => if x2.2.2.1 = 0 then (j5 (-4 : Int32)) else (if g1 = 0 then (j5 x2.1) else (if g1 = (1 : Int32) then (j5 x2.2.1) else (j5 x2.2.2.1))))
noncomputable def mX8_farthest_K84 (self7 : (Int32 × Int32 × Int32 × Int32 × nF × nF) → Option (Int32 × nF × nF)) (x6 : (Int32 × Int32 × Int32 × Int32 × nF × nF)) (r9 : (nF × nF)) (x10 : (Int32 × Int32 × Int32)) : Option (Int32 × nF × nF) :=
  self7 (x10.1, x10.2.1, x10.2.2, x6.2.2.2.1 + (1 : Int32), r9.1, r9.2)
noncomputable def mX8_farthest_L42 (m_s : nF) (x6 : (Int32 × Int32 × Int32 × Int32 × nF × nF)) (r9 : (nF × nF)) (j11 : (Int32 × Int32 × Int32) → Option (Int32 × nF × nF)) (self13 : (Int32 × Int32 × Int32 × Int32) → Option (Int32 × nF × nF)) (x12 : (Int32 × Int32 × Int32 × Int32)) : Option (Int32 × nF × nF) :=
  (mX8_cells m_s).bind fun r14 => if r14 ≤ x12.2.2.2 then (j11 (x12.1, x12.2.1, x12.2.2.1)) else (gd (inb x12.2.2.2 36) (jn (fun x15 : (Int32 × Int32 × Int32) => self13 (x15.1, x15.2.1, x15.2.2, x12.2.2.2 + (1 : Int32))) (fun j16 => if (r9.1 x12.2.2.2.toNatClampNeg) ≤ x12.2.2.1 then (j16 (x12.1, x12.2.1, x12.2.2.1)) else (gd (inb x12.2.2.2 36) (j16 (x6.2.2.2.1, x12.2.2.2, r9.1 x12.2.2.2.toNatClampNeg))))))
noncomputable def mX8_farthest_L21 (F : Nat) (m_s : nF) (j3 : (Int32 × Int32 × Int32 × nF × nF) → Option (Int32 × nF × nF)) (self7 : (Int32 × Int32 × Int32 × Int32 × nF × nF) → Option (Int32 × nF × nF)) (x6 : (Int32 × Int32 × Int32 × Int32 × nF × nF)) : Option (Int32 × nF × nF) :=
  (mX8_cells m_s).bind fun r8 => if r8 ≤ x6.2.2.2.1 then (j3 (x6.1, x6.2.1, x6.2.2.1, x6.2.2.2.2.1, x6.2.2.2.2.2)) else ((mX8_measures F m_s x6.2.2.2.2.1 x6.2.2.2.2.2 x6.2.2.2.1).bind fun r9 => jn (mX8_farthest_K84 self7 x6 r9) (fun j11 => lpr (mX8_farthest_L42 m_s x6 r9 j11) F (x6.1, x6.2.1, x6.2.2.1, x6.2.2.2.1 + (1 : Int32))))
noncomputable def mX8_farthest (F : Nat) (m_s : nF) (m_far : nF) (m_queue : nF) (g1 : Int32) : Option (Int32 × nF × nF) :=
  (mX8_in g1 (0 : Int32) (2 : Int32)).bind fun r1 => if r1 = 0 then (some ((-1 : Int32), m_far, m_queue)) else (jn (mX8_farthest_K90 g1) (fun j3 => lpr (mX8_farthest_L21 F m_s j3) F ((-1 : Int32), (-1 : Int32), (0 : Int32), (0 : Int32), m_far, m_queue)))

noncomputable def mX8_mayBeExit (m_s : nF) (g1 : Int32) (g2 : Int32) : Option Int32 :=
  (mX8_besides m_s g1 g2).bind fun r1 => jn (fun x2 : Int32 => gd (zb x2) (some x2)) (fun j3 => jn (fun x4 : Unit => j3 (0 : Int32)) (fun j5 => if 0 ≤ r1 then (j5 ()) else (gd (inb (2 : Int32) 114) (jn (fun x6 : Unit => j3 (1 : Int32)) (fun j7 => if (m_s (2 : Int32).toNatClampNeg) = g1 then (gd (inb (3 : Int32) 114) (if (m_s (3 : Int32).toNatClampNeg) = g2 then (j5 ()) else (j7 ()))) else (j7 ()))))))

noncomputable def mX8_bestExit_K150 (g1 : Int32) (x2 : (Int32 × Int32 × Int32 × nF × nF × nF × nF × Int32 × Int32)) : Option (Int32 × nF × nF × nF × nF × Int32 × Int32) :=
  jn (fun x4 : Int32 => some (x4, x2.2.2.2.1, x2.2.2.2.2.1, x2.2.2.2.2.2.1, x2.2.2.2.2.2.2.1, x2.2.2.2.2.2.2.2.1, x2.2.2.2.2.2.2.2.2)) (fun j5 => if 0 ≤ x2.1 then (if g1 = 0 then (j5 x2.1) else (if g1 = (1 : Int32) then (j5 x2.2.1) else (j5 x2.2.2.1))) else (j5 (-4 : Int32)))
noncomputable def mX8_bestExit_K144 (self7 : (Int32 × Int32 × Int32 × Int32 × nF × nF × nF × nF × Int32 × Int32) → Option (Int32 × nF × nF × nF × nF × Int32 × Int32)) (x6 : (Int32 × Int32 × Int32 × Int32 × nF × nF × nF × nF × Int32 × Int32)) (x9 : (Int32 × Int32 × Int32 × nF × nF × nF × nF × Int32 × Int32)) : Option (Int32 × nF × nF × nF × nF × Int32 × Int32) :=
  self7 (x9.1, x9.2.1, x9.2.2.1, x6.2.2.2.1 + (1 : Int32), x9.2.2.2.1, x9.2.2.2.2.1, x9.2.2.2.2.2.1, x9.2.2.2.2.2.2.1, x9.2.2.2.2.2.2.2.1, x9.2.2.2.2.2.2.2.2)
noncomputable def mX8_bestExit_L34 (F : Nat) (m_s : nF) (x6 : (Int32 × Int32 × Int32 × Int32 × nF × nF × nF × nF × Int32 × Int32)) (j10 : (Int32 × Int32 × Int32 × nF × nF × nF × nF × Int32 × Int32) → Option (Int32 × nF × nF × nF × nF × Int32 × Int32)) (self12 : (Int32 × Int32 × Int32 × Int32 × nF × nF × nF × nF × Int32 × Int32) → Option (Int32 × nF × nF × nF × nF × Int32 × Int32)) (x11 : (Int32 × Int32 × Int32 × Int32 × nF × nF × nF × nF × Int32 × Int32)) : Option (Int32 × nF × nF × nF × nF × Int32 × Int32) :=
  if x11.2.2.2.1 < 0 then (j10 (x11.1, x11.2.1, x11.2.2.1, x11.2.2.2.2.1, x11.2.2.2.2.2.1, x11.2.2.2.2.2.2.1, x11.2.2.2.2.2.2.2.1, x11.2.2.2.2.2.2.2.2.1, x11.2.2.2.2.2.2.2.2.2)) else ((mX8_mayBeExit m_s x6.2.2.2.1 x11.2.2.2.1).bind fun r13 => jn (fun x14 : (Int32 × Int32 × Int32 × nF × nF × nF × nF × Int32 × Int32) => self12 (x14.1, x14.2.1, x14.2.2.1, x11.2.2.2.1 + (-1 : Int32), x14.2.2.2.1, x14.2.2.2.2.1, x14.2.2.2.2.2.1, x14.2.2.2.2.2.2.1, x14.2.2.2.2.2.2.2.1, x14.2.2.2.2.2.2.2.2)) (fun j15 => if r13 = 0 then (j15 (x11.1, x11.2.1, x11.2.2.1, x11.2.2.2.2.1, x11.2.2.2.2.2.1, x11.2.2.2.2.2.2.1, x11.2.2.2.2.2.2.2.1, x11.2.2.2.2.2.2.2.2.1, x11.2.2.2.2.2.2.2.2.2)) else (gd (inb (2 : Int32) 114) ((mX8_areJoined F m_s x11.2.2.2.2.1 x11.2.2.2.2.2.1 (m_s (2 : Int32).toNatClampNeg) x6.2.2.2.1).bind fun r16 => if r16.1 = 0 then (j15 (x11.1, x11.2.1, x11.2.2.1, r16.2.1, r16.2.2, x11.2.2.2.2.2.2.1, x11.2.2.2.2.2.2.2.1, x11.2.2.2.2.2.2.2.2.1, x11.2.2.2.2.2.2.2.2.2)) else ((mX8_faultTo F m_s r16.2.1 r16.2.2 x11.2.2.2.2.2.2.1 x11.2.2.2.2.2.2.2.1 x11.2.2.2.2.2.2.2.2.1 x11.2.2.2.2.2.2.2.2.2 x6.2.2.2.1).bind fun r17 => jn (fun x18 : Int32 => jn (fun x20 : Int32 => jn (fun x22 : Int32 => jn (fun x24 : Int32 => j15 (x20, x22, x24, r17.2.1, r17.2.2.1, r17.2.2.2.1, r17.2.2.2.2.1, r17.2.2.2.2.2.1, r17.2.2.2.2.2.2)) (fun j25 => if x18 = 0 then (j25 x11.2.2.1) else (j25 r17.1))) (fun j23 => if x18 = 0 then (j23 x11.2.1) else (j23 x11.2.2.2.1))) (fun j21 => if x18 = 0 then (j21 x11.1) else (j21 x6.2.2.2.1))) (fun j19 => jn (fun x26 : Unit => j19 (1 : Int32)) (fun j27 => if r17.1 < x11.2.2.1 then (j27 ()) else (jn (fun x28 : Unit => j19 (0 : Int32)) (fun j29 => if x11.1 = x6.2.2.2.1 then (if r17.1 = x11.2.2.1 then (j27 ()) else (j29 ())) else (j29 ()))))))))))
noncomputable def mX8_bestExit_L22 (F : Nat) (m_s : nF) (j3 : (Int32 × Int32 × Int32 × nF × nF × nF × nF × Int32 × Int32) → Option (Int32 × nF × nF × nF × nF × Int32 × Int32)) (self7 : (Int32 × Int32 × Int32 × Int32 × nF × nF × nF × nF × Int32 × Int32) → Option (Int32 × nF × nF × nF × nF × Int32 × Int32)) (x6 : (Int32 × Int32 × Int32 × Int32 × nF × nF × nF × nF × Int32 × Int32)) : Option (Int32 × nF × nF × nF × nF × Int32 × Int32) :=
  (mX8_cells m_s).bind fun r8 => if r8 ≤ x6.2.2.2.1 then (j3 (x6.1, x6.2.1, x6.2.2.1, x6.2.2.2.2.1, x6.2.2.2.2.2.1, x6.2.2.2.2.2.2.1, x6.2.2.2.2.2.2.2.1, x6.2.2.2.2.2.2.2.2.1, x6.2.2.2.2.2.2.2.2.2)) else (jn (mX8_bestExit_K144 self7 x6) (fun j10 => lpr (mX8_bestExit_L34 F m_s x6 j10) F (x6.1, x6.2.1, x6.2.2.1, (3 : Int32), x6.2.2.2.2.1, x6.2.2.2.2.2.1, x6.2.2.2.2.2.2.1, x6.2.2.2.2.2.2.2.1, x6.2.2.2.2.2.2.2.2.1, x6.2.2.2.2.2.2.2.2.2)))
noncomputable def mX8_bestExit (F : Nat) (m_s : nF) (m_far : nF) (m_queue : nF) (m_isOn : nF) (m_steps : nF) (m_wayCells : Int32) (m_turns : Int32) (g1 : Int32) : Option (Int32 × nF × nF × nF × nF × Int32 × Int32) :=
  (mX8_in g1 (0 : Int32) (2 : Int32)).bind fun r1 => if r1 = 0 then (some ((-1 : Int32), m_far, m_queue, m_isOn, m_steps, m_wayCells, m_turns)) else (jn (mX8_bestExit_K150 g1) (fun j3 => lpr (mX8_bestExit_L22 F m_s j3) F ((-1 : Int32), (-1 : Int32), (1000000 : Int32), (0 : Int32), m_far, m_queue, m_isOn, m_steps, m_wayCells, m_turns)))

noncomputable def mX8_keep_K26 (F : Nat) (m_s : nF) (x1 : nF) : Option (Int32 × nF × Int32) :=
  gd (zb (1 : Int32)) ((mX8_passages F m_s).bind fun r3 => some (r3, x1, (1 : Int32)))
noncomputable def mX8_keep_L2 (m_s : nF) (j2 : nF → Option (Int32 × nF × Int32)) (self5 : (Int32 × nF) → Option (Int32 × nF × Int32)) (x4 : (Int32 × nF)) : Option (Int32 × nF × Int32) :=
  if (114 : Int32) ≤ x4.1 then (j2 x4.2) else (gd (inb x4.1 114) (gd (inb x4.1 114) (self5 (x4.1 + (1 : Int32), (upd x4.2 x4.1.toNatClampNeg (m_s x4.1.toNatClampNeg))))))
noncomputable def mX8_keep (F : Nat) (m_s : nF) (m_kept : nF) (m_isKept : Int32) : Option (Int32 × nF × Int32) :=
  jn (mX8_keep_K26 F m_s) (fun j2 => lpr (mX8_keep_L2 m_s j2) F ((0 : Int32), m_kept))

noncomputable def mX8_restore_K40 (F : Nat) (m_past : nF) (m_states : Int32) (r1 : nF) (x2 : nF) : Option (Int32 × nF × nF × nF × Int32) :=
  (mX8_passages F x2).bind fun r4 => (mX8_acted F x2 r1 m_past m_states r4).bind fun r5 => some (r5.1, r5.2.1, r1, r5.2.2.1, r5.2.2.2)
noncomputable def mX8_restore_L16 (m_kept : nF) (j3 : nF → Option (Int32 × nF × nF × nF × Int32)) (self7 : (Int32 × nF) → Option (Int32 × nF × nF × nF × Int32)) (x6 : (Int32 × nF)) : Option (Int32 × nF × nF × nF × Int32) :=
  if (114 : Int32) ≤ x6.1 then (j3 x6.2) else (gd (inb x6.1 114) (gd (inb x6.1 114) (self7 (x6.1 + (1 : Int32), (upd x6.2 x6.1.toNatClampNeg (m_kept x6.1.toNatClampNeg))))))
noncomputable def mX8_restore (F : Nat) (m_s : nF) (m_begun : nF) (m_kept : nF) (m_isKept : Int32) (m_past : nF) (m_states : Int32) : Option (Int32 × nF × nF × nF × Int32) :=
  (mX8_begins F m_s m_begun).bind fun r1 => if m_isKept = 0 then (some ((-2 : Int32), m_s, r1, m_past, m_states)) else (jn (mX8_restore_K40 F m_past m_states r1) (fun j3 => lpr (mX8_restore_L16 m_kept j3) F ((0 : Int32), m_s)))

noncomputable def mX8_undo_L22 (m_past : nF) (m_states : Int32) (self2 : (Int32 × nF) → Option (Int32 × nF × Int32)) (x1 : (Int32 × nF)) : Option (Int32 × nF × Int32) :=
  if (114 : Int32) ≤ x1.1 then (some (m_states - (1 : Int32), x1.2, m_states - (1 : Int32))) else (gd (inb (((114 : Int32) * (m_states - (1 : Int32))) + x1.1) 456) (gd (inb x1.1 114) (self2 (x1.1 + (1 : Int32), (upd x1.2 x1.1.toNatClampNeg (m_past (((114 : Int32) * (m_states - (1 : Int32))) + x1.1).toNatClampNeg))))))
noncomputable def mX8_undo (F : Nat) (m_s : nF) (m_past : nF) (m_states : Int32) : Option (Int32 × nF × Int32) :=
  if m_states = 0 then (some ((-2 : Int32), m_s, m_states)) else (lpr (mX8_undo_L22 m_past m_states) F ((0 : Int32), m_s))

noncomputable def mX8_type (m_text : nF) (m_length : Int32) (g1 : Int32) : Option (Int32 × nF × Int32) :=
  (mX8_in g1 (32 : Int32) (126 : Int32)).bind fun r1 => if r1 = 0 then (some ((-1 : Int32), m_text, m_length)) else (if m_length = (60 : Int32) then (some ((-3 : Int32), m_text, m_length)) else (gd (inb m_length 60) (some (m_length + (1 : Int32), (upd m_text m_length.toNatClampNeg g1), m_length + (1 : Int32)))))

noncomputable def mX8_clearText (m_length : Int32) : Option (Int32 × Int32) :=
  some (m_length, (0 : Int32))

noncomputable def mX8_breaks (m_place : Int32) (m_reason : Int32) (g1 : Int32) (g2 : Int32) : Option (Int32 × Int32 × Int32) :=
  gd (zb (0 : Int32)) (some ((0 : Int32), g1, g2))

noncomputable def mX8_isPicture_K172 (m_length : Int32) (m_place : Int32) (m_reason : Int32) (x1 : (Int32 × Int32 × Int32)) : Option (Int32 × Int32 × Int32 × Int32 × Int32) :=
  jn (fun x3 : Unit => (mX8_breaks m_place m_reason m_length (1 : Int32)).bind fun r5 => gd (zb r5.1) (some (r5.1, r5.2.1, r5.2.2, x1.2.1, x1.2.2))) (fun j4 => if x1.1 = 0 then (j4 ()) else (if x1.2.1 ≤ x1.1 then (jn (fun x6 : (Int32 × Int32 × Int32) => gd (zb x6.1) (some (x6.1, x6.2.1, x6.2.2, x1.2.1, x1.2.2))) (fun j7 => jn (fun x8 : (Int32 × Int32) => j7 ((1 : Int32), x8.1, x8.2)) (fun j9 => jn (fun x10 : Unit => (mX8_breaks m_place m_reason m_length (4 : Int32)).bind fun r12 => if r12.1 = 0 then (j7 ((0 : Int32), r12.2.1, r12.2.2)) else (j9 (r12.2.1, r12.2.2))) (fun j11 => if x1.2.1 ≤ (1 : Int32) then (j11 ()) else (if (1 : Int32) < x1.2.2 then (j9 (m_place, m_reason)) else (j11 ())))))) else (j4 ())))
noncomputable def mX8_isPicture_K159 (m_place : Int32) (m_reason : Int32) (x13 : (Int32 × Int32 × Int32)) : Option (Int32 × Int32 × Int32 × Int32 × Int32) :=
  (mX8_breaks m_place m_reason x13.1 (1 : Int32)).bind fun r15 => gd (zb r15.1) (some (r15.1, r15.2.1, r15.2.2, x13.2.1, x13.2.2))
noncomputable def mX8_isPicture_K137 (m_place : Int32) (m_reason : Int32) (x16 : (Int32 × Int32 × Int32)) : Option (Int32 × Int32 × Int32 × Int32 × Int32) :=
  (mX8_breaks m_place m_reason x16.1 (3 : Int32)).bind fun r18 => gd (zb r18.1) (some (r18.1, r18.2.1, r18.2.2, x16.2.1, x16.2.2))
noncomputable def mX8_isPicture_K77 (m_place : Int32) (m_reason : Int32) (x19 : (Int32 × Int32 × Int32)) : Option (Int32 × Int32 × Int32 × Int32 × Int32) :=
  (mX8_breaks m_place m_reason x19.1 (1 : Int32)).bind fun r21 => gd (zb r21.1) (some (r21.1, r21.2.1, r21.2.2, x19.2.1, x19.2.2))
noncomputable def mX8_isPicture_K54 (m_place : Int32) (m_reason : Int32) (x22 : (Int32 × Int32 × Int32)) : Option (Int32 × Int32 × Int32 × Int32 × Int32) :=
  (mX8_breaks m_place m_reason x22.1 (2 : Int32)).bind fun r24 => gd (zb r24.1) (some (r24.1, r24.2.1, r24.2.2, x22.2.1, x22.2.2))
noncomputable def mX8_isPicture_L14 (m_text : nF) (m_length : Int32) (j2 : (Int32 × Int32 × Int32) → Option (Int32 × Int32 × Int32 × Int32 × Int32)) (j14 : (Int32 × Int32 × Int32) → Option (Int32 × Int32 × Int32 × Int32 × Int32)) (j17 : (Int32 × Int32 × Int32) → Option (Int32 × Int32 × Int32 × Int32 × Int32)) (j20 : (Int32 × Int32 × Int32) → Option (Int32 × Int32 × Int32 × Int32 × Int32)) (j23 : (Int32 × Int32 × Int32) → Option (Int32 × Int32 × Int32 × Int32 × Int32)) (self26 : (Int32 × Int32 × Int32 × Int32) → Option (Int32 × Int32 × Int32 × Int32 × Int32)) (x25 : (Int32 × Int32 × Int32 × Int32)) : Option (Int32 × Int32 × Int32 × Int32 × Int32) :=
  if m_length ≤ x25.2.1 then (j2 (x25.1, x25.2.2.1, x25.2.2.2)) else (gd (inb x25.2.1 60) ((mX8_in (m_text x25.2.1.toNatClampNeg) (48 : Int32) (57 : Int32)).bind fun r27 => jn (fun x28 : (Int32 × Int32 × Int32) => self26 (x28.1, x25.2.1 + (1 : Int32), x28.2.1, x28.2.2)) (fun j29 => if r27 = 0 then (if (m_text x25.2.1.toNatClampNeg) = (47 : Int32) then (if x25.1 ≤ 0 then (j14 (x25.2.1, x25.2.2.1, x25.2.2.2)) else (if x25.1 = x25.2.2.1 then (if x25.2.2.2 = (6 : Int32) then (j17 (x25.2.1, x25.2.2.1, x25.2.2.2)) else (j29 ((0 : Int32), x25.2.2.1, x25.2.2.2 + (1 : Int32)))) else (j14 (x25.2.1, x25.2.2.1, x25.2.2.2)))) else (j14 (x25.2.1, x25.2.2.1, x25.2.2.2))) else (jn (fun x30 : Unit => jn (fun x32 : Unit => jn (fun x34 : Int32 => j29 (x25.1 + (1 : Int32), x34, x25.2.2.2)) (fun j35 => if x25.2.2.2 = (1 : Int32) then (j35 (x25.1 + (1 : Int32))) else (j35 x25.2.2.1))) (fun j33 => if x25.2.2.2 ≤ (1 : Int32) then (j33 ()) else (if x25.1 = x25.2.2.1 then (j20 (x25.2.1, x25.2.2.1, x25.2.2.2)) else (j33 ())))) (fun j31 => if x25.2.2.2 = (1 : Int32) then (if x25.1 = (6 : Int32) then (j23 (x25.2.1, x25.2.2.1, x25.2.2.2)) else (j31 ())) else (j31 ()))))))
noncomputable def mX8_isPicture (F : Nat) (m_text : nF) (m_length : Int32) (m_place : Int32) (m_reason : Int32) (m_wide : Int32) (m_high : Int32) : Option (Int32 × Int32 × Int32 × Int32 × Int32) :=
  jn (mX8_isPicture_K172 m_length m_place m_reason) (fun j2 => jn (mX8_isPicture_K159 m_place m_reason) (fun j14 => jn (mX8_isPicture_K137 m_place m_reason) (fun j17 => jn (mX8_isPicture_K77 m_place m_reason) (fun j20 => jn (mX8_isPicture_K54 m_place m_reason) (fun j23 => lpr (mX8_isPicture_L14 m_text m_length j2 j14 j17 j20 j23) F ((0 : Int32), (0 : Int32), (0 : Int32), (1 : Int32)))))))

noncomputable def mX8_fault (F : Nat) (m_text : nF) (m_length : Int32) (m_place : Int32) (m_reason : Int32) (m_wide : Int32) (m_high : Int32) (g1 : Int32) : Option (Int32 × Int32 × Int32 × Int32 × Int32) :=
  (mX8_in g1 (0 : Int32) (1 : Int32)).bind fun r1 => if r1 = 0 then (some ((-1 : Int32), m_place, m_reason, m_wide, m_high)) else ((mX8_isPicture F m_text m_length m_place m_reason m_wide m_high).bind fun r2 => if r2.1 = 0 then (jn (fun x3 : Int32 => some (x3, r2.2.1, r2.2.2.1, r2.2.2.2.1, r2.2.2.2.2)) (fun j4 => if g1 = 0 then (j4 r2.2.1) else (j4 r2.2.2.1))) else (some ((-4 : Int32), r2.2.1, r2.2.2.1, r2.2.2.2.1, r2.2.2.2.2)))

noncomputable def mX8_read_K67 (F : Nat) (m_past : nF) (m_states : Int32) (r1 : nF) (r2 : (Int32 × Int32 × Int32 × Int32 × Int32)) (x4 : nF) : Option (Int32 × nF × nF × nF × Int32 × Int32 × Int32 × Int32 × Int32) :=
  (mX8_cells x4).bind fun r6 => (mX8_acted F x4 r1 m_past m_states r6).bind fun r7 => some (r7.1, r7.2.1, r1, r7.2.2.1, r7.2.2.2, r2.2.1, r2.2.2.1, r2.2.2.2.1, r2.2.2.2.2)
noncomputable def mX8_read_L28 (m_text : nF) (r2 : (Int32 × Int32 × Int32 × Int32 × Int32)) (j5 : nF → Option (Int32 × nF × nF × nF × Int32 × Int32 × Int32 × Int32 × Int32)) (self9 : (Int32 × nF) → Option (Int32 × nF × nF × nF × Int32 × Int32 × Int32 × Int32 × Int32)) (x8 : (Int32 × nF)) : Option (Int32 × nF × nF × nF × Int32 × Int32 × Int32 × Int32 × Int32) :=
  (mX8_cells x8.2).bind fun r10 => if r10 ≤ x8.1 then (j5 x8.2) else (gd (nz r2.2.2.2.1) (gd (inb (x8.1 + (x8.1 / r2.2.2.2.1)) 60) (gd (inb ((6 : Int32) + x8.1) 114) (self9 (x8.1 + (1 : Int32), (upd x8.2 ((6 : Int32) + x8.1).toNatClampNeg ((m_text (x8.1 + (x8.1 / r2.2.2.2.1)).toNatClampNeg) - (48 : Int32))))))))
noncomputable def mX8_read (F : Nat) (m_s : nF) (m_begun : nF) (m_past : nF) (m_states : Int32) (m_text : nF) (m_length : Int32) (m_place : Int32) (m_reason : Int32) (m_wide : Int32) (m_high : Int32) : Option (Int32 × nF × nF × nF × Int32 × Int32 × Int32 × Int32 × Int32) :=
  (mX8_begins F m_s m_begun).bind fun r1 => (mX8_isPicture F m_text m_length m_place m_reason m_wide m_high).bind fun r2 => if r2.1 = 0 then (some ((-2 : Int32), m_s, r1, m_past, m_states, r2.2.1, r2.2.2.1, r2.2.2.2.1, r2.2.2.2.2)) else ((mX8_lightens F m_s r2.2.2.2.1 r2.2.2.2.2).bind fun r3 => jn (mX8_read_K67 F m_past m_states r1 r2) (fun j5 => lpr (mX8_read_L28 m_text r2 j5) F ((0 : Int32), r3)))
