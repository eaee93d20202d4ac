section
/-! BASE: what the models are made of; loops -/
def gd {β : Type} (b : Bool) (k : Option β) : Option β := match b with
  | true => k
  | false => none
def inb (i : Int32) (n : Nat) : Bool := !(decide (i < 0)) && decide (i.toNatClampNeg < n)
def zb (x : Int32) : Bool := decide (x = 0) || decide (x = 1)
def nz (x : Int32) : Bool := !(decide (x = 0))
def jn {κ β : Type} (K : κ) (B : κ → Option β) : Option β := B K
abbrev nF : Type := Nat → Int32
abbrev nQ : Type := Nat → Option Nat
def lpr {σ β : Type} (L : (σ → Option β) → σ → Option β) : Nat → σ → Option β
  | 0, _ => none
  | n + 1, a => L (lpr L n) a
abbrev MZ : Type := Int32 × Int32 × nF × nF × nF × nF
abbrev WY : Type := Int32 × nF × nF × nF × nF
abbrev WK : Type := Int32 × Int32 × nF × nF
abbrev PT : Type := Int32 × Int32 × Int32 × nF × Int32 × Int32 × Int32
abbrev EX : Type := Int32 × Int32 × Int32 × Int32 × Int32 × nF
abbrev BD : Type := nF
abbrev HS : Type := Int32 × Nat × (Nat → MZ)
theorem lpr_to {σ β : Type} {E : Option β → Prop} {L : (σ → Option β) → σ → Option β} (I : Nat → σ → Prop) (m : Nat)
    (hs : ∀ i x, i ≤ m → I i x → (∃ e, E e ∧ ∀ self, L self x = e) ∨ (i < m ∧ ∃ y, I (i + 1) y ∧ ∀ self, L self x = self y)) : ∀ (F i : Nat) (x : σ), I i x → i ≤ m → m < F + i → E (lpr L F x) := by
  intro F
  induction F with
  | zero => intro i x _ h1 h2; omega
  | succ F ih =>
    intro i x hi h1 h2
    show E (L (lpr L F) x)
    rcases hs i x h1 hi with ⟨e, he, hL⟩ | ⟨hm, y, hy, hL⟩
    · rw [hL]; exact he
    · rw [hL]; exact ih (i + 1) y hy (by omega) (by omega)
/-- a loop that returns -/
theorem lpr_r {σ β : Type} {Q : β → Prop} {L : (σ → Option β) → σ → Option β} (I : Nat → σ → Prop) (m : Nat)
    (hs : ∀ i x, i ≤ m → I i x → (∃ r, Q r ∧ ∀ self, L self x = some r) ∨ (i < m ∧ ∃ y, I (i + 1) y ∧ ∀ self, L self x = self y)) {F : Nat} {x : σ} (h0 : I 0 x) (hF : m < F) : ∃ r, Q r ∧ lpr L F x = some r :=
  lpr_to (E := fun e => ∃ r, Q r ∧ e = some r) I m (fun i x h1 h2 => by
    rcases hs i x h1 h2 with ⟨r, q, hL⟩ | h
    · exact Or.inl ⟨some r, ⟨r, q, rfl⟩, hL⟩
    · exact Or.inr h) F 0 x h0 (Nat.zero_le _) (by omega)
/-- a loop that goes on behind it -/
theorem lpr_j {σ β γ : Type} {Q : γ → Prop} {L : (γ → Option β) → (σ → Option β) → σ → Option β} (I : Nat → σ → Prop) (m : Nat)
    (hs : ∀ i x, i ≤ m → I i x → (∃ y, Q y ∧ ∀ j self, L j self x = j y) ∨ (i < m ∧ ∃ y, I (i + 1) y ∧ ∀ j self, L j self x = self y)) {F : Nat} {x : σ} (h0 : I 0 x) (hF : m < F) : ∃ y, Q y ∧ ∀ j, lpr (L j) F x = j y := by
  have key : ∀ (F i : Nat) (x : σ), I i x → i ≤ m → m < F + i → ∃ y, Q y ∧ ∀ j, lpr (L j) F x = j y := by
    intro F
    induction F with
    | zero => intro i x _ h1 h2; omega
    | succ F ih =>
      intro i x hi h1 h2
      rcases hs i x h1 hi with ⟨y, q, hL⟩ | ⟨hm, y, hy, hL⟩
      · exact ⟨y, q, fun j => hL j _⟩
      · obtain ⟨z, q, hz⟩ := ih (i + 1) y hy (by omega) (by omega)
        exact ⟨z, q, fun j => (hL j _).trans (hz j)⟩
  exact key F 0 x h0 (Nat.zero_le _) (by omega)
/-- a loop whose states are known -/
theorem lpr_fn {σ β : Type} {L : (σ → Option β) → σ → Option β} {e : Option β} (st : Nat → σ) (m : Nat) (hs : ∀ i, i < m → ∀ self, L self (st i) = self (st (i + 1))) (he : ∀ self, L self (st m) = e) {F : Nat} (hF : m < F) : lpr L F (st 0) = e := by
  have key : ∀ (F i : Nat), i ≤ m → m < F + i → lpr L F (st i) = e := by
    intro F
    induction F with
    | zero => intro i h1 h2; omega
    | succ F ih =>
      intro i h1 h2
      show L (lpr L F) (st i) = e
      by_cases h : i = m
      · subst h; exact he _
      · rw [hs i (by omega)]; exact ih (i + 1) (by omega) (by omega)
  exact key F 0 (Nat.zero_le _) (by omega)
theorem jn_e {κ β : Type} {K : κ} {B : κ → Option β} : jn K B = B K := rfl
theorem bnd_s {α β : Type} {a : α} {f : α → Option β} : (some a).bind f = f a := rfl
end
section
/-! MODELS of the methods, printed by wip/whole/gen.py from the bytecode -/
noncomputable def mJ7_fill_53178_L5 (n_p0 : Nat) (g1 : Int32) (self2 : (Int32 × nF) → Option nF) (x1 : (Int32 × nF)) : Option nF :=
  if (Int32.ofNat n_p0) ≤ x1.1 then (some x1.2) else (gd (inb x1.1 n_p0) (self2 (x1.1 + (1 : Int32), (upd x1.2 x1.1.toNatClampNeg g1))))
noncomputable def mJ7_fill_53178 (F : Nat) (n_p0 : Nat) (f_p0 : nF) (g1 : Int32) : Option nF :=
  lpr (mJ7_fill_53178_L5 n_p0 g1) F ((0 : Int32), f_p0)

noncomputable def mX7_put (n_p0 : Nat) (f_p0 : nF) (g1 : Int32) (g2 : Int32) : Option nF :=
  jn (fun x1 : nF => some x1) (fun j2 => if g1 < 0 then (j2 f_p0) else (if (Int32.ofNat n_p0) ≤ g1 then (j2 f_p0) else (gd (inb g1 n_p0) (j2 (upd f_p0 g1.toNatClampNeg g2)))))

noncomputable def mX3_cells (v_t : MZ) : Option Int32 :=
  some (v_t.1 * v_t.2.1)

noncomputable def mX3_clear (F : Nat) (v_t : MZ) (g1 : Int32) (g2 : Int32) : Option MZ :=
  (mJ7_fill_53178 F 36 v_t.2.2.1 (0 : Int32)).bind fun r1 => (mJ7_fill_53178 F 36 v_t.2.2.2.1 (0 : Int32)).bind fun r2 => (mX7_put 2 v_t.2.2.2.2.1 (0 : Int32) (0 : Int32)).bind fun r3 => (mX7_put 2 v_t.2.2.2.2.2 (0 : Int32) (3 : Int32)).bind fun r4 => (mX3_cells (g1, g2, r1, r2, r3, r4)).bind fun r5 => (mX7_put 2 r3 (1 : Int32) (r5 - (1 : Int32))).bind fun r6 => (mX7_put 2 r4 (1 : Int32) (1 : Int32)).bind fun r7 => some (g1, g2, r1, r2, r6, r7)

noncomputable def mX3_hasCell (v_t : MZ) (g1 : Int32) : Option Int32 :=
  jn (fun x1 : Int32 => gd (zb x1) (some x1)) (fun j2 => jn (fun x3 : Unit => j2 (0 : Int32)) (fun j4 => if g1 < 0 then (j4 ()) else ((mX3_cells v_t).bind fun r5 => if r5 ≤ g1 then (j4 ()) else (j2 (1 : Int32)))))

noncomputable def mX7_at (n_p0 : Nat) (f_p0 : nF) (g1 : Int32) : Option Int32 :=
  jn (fun x1 : Int32 => some x1) (fun j2 => jn (fun x3 : Unit => j2 (0 : Int32)) (fun j4 => if g1 < 0 then (j4 ()) else (if (Int32.ofNat n_p0) ≤ g1 then (j4 ()) else (gd (inb g1 n_p0) (j2 (f_p0 g1.toNatClampNeg))))))

noncomputable def mX3_copyRow_K26 (x1 : nF) : Option nF :=
  some x1
noncomputable def mX3_copyRow_L2 (n_p0 : Nat) (f_p0 : nF) (n_p1 : Nat) (j2 : nF → Option nF) (self4 : (Int32 × nF) → Option nF) (x3 : (Int32 × nF)) : Option nF :=
  if (Int32.ofNat n_p0) ≤ x3.1 then (j2 x3.2) else (if (Int32.ofNat n_p1) ≤ x3.1 then (j2 x3.2) else (gd (inb x3.1 n_p0) (gd (inb x3.1 n_p1) (self4 (x3.1 + (1 : Int32), (upd x3.2 x3.1.toNatClampNeg (f_p0 x3.1.toNatClampNeg)))))))
noncomputable def mX3_copyRow (F : Nat) (n_p0 : Nat) (f_p0 : nF) (n_p1 : Nat) (f_p1 : nF) : Option nF :=
  jn mX3_copyRow_K26 (fun j2 => lpr (mX3_copyRow_L2 n_p0 f_p0 n_p1 j2) F ((0 : Int32), f_p1))

noncomputable def mX3_copyFrom (F : Nat) (v_t : MZ) (v_p1 : MZ) : Option MZ :=
  (mX3_copyRow F 36 v_p1.2.2.1 36 v_t.2.2.1).bind fun r1 => (mX3_copyRow F 36 v_p1.2.2.2.1 36 v_t.2.2.2.1).bind fun r2 => (mX3_copyRow F 2 v_p1.2.2.2.2.1 2 v_t.2.2.2.2.1).bind fun r3 => (mX3_copyRow F 2 v_p1.2.2.2.2.2 2 v_t.2.2.2.2.2).bind fun r4 => some (v_p1.1, v_p1.2.1, r1, r2, r3, r4)

/-- the history, by hand: kept[i] is the maze at the place (i + rot) % 4 -/
noncomputable def mX2_push (F : Nat) (v_t : HS) (v_p1 : MZ) : Option HS :=
  if v_t.1 = 0 then (mX3_copyFrom F (v_t.2.2 ((0 + (v_t.2.1)) % 4)) v_p1).bind fun r => some (1, v_t.2.1, fun j => if j = (0 + (v_t.2.1)) % 4 then r else v_t.2.2 j)
  else if v_t.1 = 1 then (mX3_copyFrom F (v_t.2.2 ((1 + (v_t.2.1)) % 4)) v_p1).bind fun r => some (2, v_t.2.1, fun j => if j = (1 + (v_t.2.1)) % 4 then r else v_t.2.2 j)
  else if v_t.1 = 2 then (mX3_copyFrom F (v_t.2.2 ((2 + (v_t.2.1)) % 4)) v_p1).bind fun r => some (3, v_t.2.1, fun j => if j = (2 + (v_t.2.1)) % 4 then r else v_t.2.2 j)
  else if v_t.1 = 3 then (mX3_copyFrom F (v_t.2.2 ((3 + (v_t.2.1)) % 4)) v_p1).bind fun r => some (4, v_t.2.1, fun j => if j = (3 + (v_t.2.1)) % 4 then r else v_t.2.2 j)
  else if v_t.1 = 4 then (mX3_copyFrom F (v_t.2.2 ((3 + (v_t.2.1 + 1)) % 4)) v_p1).bind fun r => some (4, v_t.2.1 + 1, fun j => if j = (3 + (v_t.2.1 + 1)) % 4 then r else v_t.2.2 j)
  else none
noncomputable def mX2_pop (F : Nat) (v_t : HS) (v_p1 : MZ) : Option (Int32 × Int32 × MZ) :=
  if v_t.1 = 0 then some (0, 0, v_p1)
  else if v_t.1 = 1 then (mX3_copyFrom F v_p1 (v_t.2.2 ((0 + v_t.2.1) % 4))).bind fun r => some (1, 0, r)
  else if v_t.1 = 2 then (mX3_copyFrom F v_p1 (v_t.2.2 ((1 + v_t.2.1) % 4))).bind fun r => some (1, 1, r)
  else if v_t.1 = 3 then (mX3_copyFrom F v_p1 (v_t.2.2 ((2 + v_t.2.1) % 4))).bind fun r => some (1, 2, r)
  else if v_t.1 = 4 then (mX3_copyFrom F v_p1 (v_t.2.2 ((3 + v_t.2.1) % 4))).bind fun r => some (1, 3, r)
  else none

noncomputable def mX7_tone (F : Nat) (v_o1 : MZ) (v_o3 : HS) (g1 : Int32) (g2 : Int32) : Option (Int32 × nF × HS) :=
  (mX3_hasCell v_o1 g1).bind fun r1 => jn (fun x2 : Unit => some ((-1 : Int32), v_o1.2.2.1, v_o3)) (fun j3 => if r1 = 0 then (j3 ()) else (if g2 < 0 then (j3 ()) else (if g2 ≤ (9 : Int32) then ((mX7_at 36 v_o1.2.2.1 g1).bind fun r4 => (mX2_push F v_o3 v_o1).bind fun r5 => (mX7_put 36 v_o1.2.2.1 g1 g2).bind fun r6 => some (r4, r6, r5)) else (j3 ()))))

noncomputable def mX7_isDirection (g0 : Int32) : Option Int32 :=
  jn (fun x1 : Int32 => gd (zb x1) (some x1)) (fun j2 => jn (fun x3 : Unit => j2 (0 : Int32)) (fun j4 => if g0 < 0 then (j4 ()) else (if (4 : Int32) ≤ g0 then (j4 ()) else (j2 (1 : Int32)))))

noncomputable def mX3_beside (v_t : MZ) (g1 : Int32) (g2 : Int32) : Option Int32 :=
  jn (fun x1 : Unit => some (-1 : Int32)) (fun j2 => if g1 < 0 then (j2 ()) else (if (v_t.1 * v_t.2.1) ≤ g1 then (j2 ()) else (if 0 < v_t.1 then (gd (nz v_t.1) (if g2 = (0 : Int32) then (jn (fun x4 : Int32 => some x4) (fun j5 => if g1 < v_t.1 then (j5 (-1 : Int32)) else (j5 (g1 - v_t.1)))) else if g2 = (1 : Int32) then (jn (fun x7 : Int32 => some x7) (fun j8 => if (v_t.1 - (1 : Int32)) ≤ (g1 - g1 / v_t.1 * v_t.1) then (j8 (-1 : Int32)) else (j8 (g1 + (1 : Int32))))) else if g2 = (2 : Int32) then (jn (fun x10 : Int32 => some x10) (fun j11 => if (v_t.1 * v_t.2.1) ≤ (g1 + v_t.1) then (j11 (-1 : Int32)) else (j11 (g1 + v_t.1)))) else if g2 = (3 : Int32) then (jn (fun x13 : Int32 => some x13) (fun j14 => if (g1 - g1 / v_t.1 * v_t.1) ≤ 0 then (j14 (-1 : Int32)) else (j14 (g1 - (1 : Int32))))) else (some (-1 : Int32)))) else (j2 ()))))

noncomputable def mX6_lengthTo (v_t : WY) (g1 : Int32) : Option Int32 :=
  jn (fun x1 : Int32 => some x1) (fun j2 => jn (fun x3 : Unit => j2 (-1 : Int32)) (fun j4 => if g1 < 0 then (j4 ()) else (if (Int32.ofNat 36) ≤ g1 then (j4 ()) else (gd (inb g1 36) (j2 (v_t.2.2.2.1 g1.toNatClampNeg))))))

noncomputable def mX6_reachCell (v_t : WY) (v_p1 : MZ) (g2 : Int32) (g3 : Int32) : Option WY :=
  (mX7_at 36 v_p1.2.2.1 g2).bind fun r1 => (mX7_put 36 v_t.2.1 v_t.1 g2).bind fun r2 => (mX7_put 36 v_t.2.2.1 g2 g3).bind fun r3 => jn (fun x4 : Int32 => (mX7_put 36 v_t.2.2.2.1 g2 x4).bind fun r6 => jn (fun x7 : Int32 => (mX7_put 36 v_t.2.2.2.2 g2 x7).bind fun r9 => some (v_t.1 + (1 : Int32), r2, r3, r6, r9)) (fun j8 => if g3 = (-1 : Int32) then (j8 ((9 : Int32) - ((2 : Int32) * r1))) else ((mX7_at 36 v_t.2.2.2.2 g3).bind fun r10 => j8 (r10 + ((9 : Int32) - ((2 : Int32) * r1)))))) (fun j5 => if g3 = (-1 : Int32) then (j5 (0 : Int32)) else ((mX6_lengthTo (v_t.1 + (1 : Int32), r2, r3, v_t.2.2.2.1, v_t.2.2.2.2) g3).bind fun r11 => j5 (r11 + (1 : Int32))))

noncomputable def mX3_hasPassage (v_t : MZ) (g1 : Int32) (g2 : Int32) : Option Int32 :=
  (mX7_at 36 v_t.2.2.2.1 g1).bind fun r1 => jn (fun x2 : Int32 => gd (zb x2) (some x2)) (fun j3 => if (r1 &&& ((1 : Int32) <<< (g2 &&& 31))) = 0 then (j3 (0 : Int32)) else (j3 (1 : Int32)))

noncomputable def mX6_reach (v_t : WY) (g1 : Int32) : Option Int32 :=
  (mX6_lengthTo v_t g1).bind fun r1 => jn (fun x2 : Int32 => gd (zb x2) (some x2)) (fun j3 => if r1 = (-1 : Int32) then (j3 (0 : Int32)) else (j3 (1 : Int32)))

noncomputable def mX6_findFrom_K106 (x3 : WY) : Option WY :=
  some x3
noncomputable def mX6_findFrom_K100 (self6 : (Int32 × WY) → Option WY) (x5 : (Int32 × WY)) (x8 : WY) : Option WY :=
  self6 (x5.1 + (1 : Int32), x8)
noncomputable def mX6_findFrom_L49 (v_p1 : MZ) (r7 : Int32) (j9 : WY → Option WY) (self11 : (Int32 × WY) → Option WY) (x10 : (Int32 × WY)) : Option WY :=
  if (4 : Int32) ≤ x10.1 then (j9 x10.2) else ((mX3_beside v_p1 r7 x10.1).bind fun r12 => (mX3_hasPassage v_p1 r7 x10.1).bind fun r13 => jn (fun x14 : WY => self11 (x10.1 + (1 : Int32), x14)) (fun j15 => if r13 = 0 then (j15 x10.2) else ((mX6_reach x10.2 r12).bind fun r16 => if r16 = 0 then ((mX6_reachCell x10.2 v_p1 r12 r7).bind fun r17 => j15 r17) else (j15 x10.2))))
noncomputable def mX6_findFrom_L22 (F : Nat) (v_p1 : MZ) (j4 : WY → Option WY) (self6 : (Int32 × WY) → Option WY) (x5 : (Int32 × WY)) : Option WY :=
  if x5.2.1 ≤ x5.1 then (j4 x5.2) else (if (36 : Int32) ≤ x5.1 then (j4 x5.2) else ((mX7_at 36 x5.2.2.1 x5.1).bind fun r7 => jn (mX6_findFrom_K100 self6 x5) (fun j9 => lpr (mX6_findFrom_L49 v_p1 r7 j9) F ((0 : Int32), x5.2))))
noncomputable def mX6_findFrom (F : Nat) (v_t : WY) (v_p1 : MZ) (g2 : Int32) : Option WY :=
  (mJ7_fill_53178 F 36 v_t.2.2.2.1 (-1 : Int32)).bind fun r1 => (mX6_reachCell ((0 : Int32), v_t.2.1, v_t.2.2.1, r1, v_t.2.2.2.2) v_p1 g2 (-1 : Int32)).bind fun r2 => jn mX6_findFrom_K106 (fun j4 => lpr (mX6_findFrom_L22 F v_p1 j4) F ((0 : Int32), r2))

noncomputable def mX3_setOpen (v_t : MZ) (g1 : Int32) (g2 : Int32) (g3 : Int32) : Option nF :=
  (mX7_at 36 v_t.2.2.2.1 g1).bind fun r1 => jn (fun x2 : Int32 => (mX7_put 36 v_t.2.2.2.1 g1 x2).bind fun r4 => some r4) (fun j3 => if g3 = 0 then (j3 (r1 &&& (((1 : Int32) <<< (g2 &&& 31)) ^^^ (-1 : Int32)))) else (j3 ((r1 &&& (((1 : Int32) <<< (g2 &&& 31)) ^^^ (-1 : Int32))) ||| ((1 : Int32) <<< (g2 &&& 31)))))

noncomputable def mX3_setPassage (v_t : MZ) (g1 : Int32) (g2 : Int32) (g3 : Int32) : Option nF :=
  (mX3_beside v_t g1 g2).bind fun r1 => jn (fun x2 : nF => some x2) (fun j3 => if r1 = (-1 : Int32) then (j3 v_t.2.2.2.1) else ((mX3_setOpen v_t g1 g2 g3).bind fun r4 => gd (nz (4 : Int32)) ((mX3_setOpen (v_t.1, v_t.2.1, v_t.2.2.1, r4, v_t.2.2.2.2.1, v_t.2.2.2.2.2) r1 ((g2 + (2 : Int32)) - (g2 + (2 : Int32)) / (4 : Int32) * (4 : Int32)) g3).bind fun r5 => j3 r5)))

noncomputable def mJ6_bitCount_0f7a4 (g0 : Int32) : Option Int32 :=
  some ((((((((g0 - (((g0.toUInt32 >>> ((1 : Int32).toUInt32 &&& Int32.toUInt32 31)).toInt32) &&& (1431655765 : Int32))) &&& (858993459 : Int32)) + ((((g0 - (((g0.toUInt32 >>> ((1 : Int32).toUInt32 &&& Int32.toUInt32 31)).toInt32) &&& (1431655765 : Int32))).toUInt32 >>> ((2 : Int32).toUInt32 &&& Int32.toUInt32 31)).toInt32) &&& (858993459 : Int32))) + (((((g0 - (((g0.toUInt32 >>> ((1 : Int32).toUInt32 &&& Int32.toUInt32 31)).toInt32) &&& (1431655765 : Int32))) &&& (858993459 : Int32)) + ((((g0 - (((g0.toUInt32 >>> ((1 : Int32).toUInt32 &&& Int32.toUInt32 31)).toInt32) &&& (1431655765 : Int32))).toUInt32 >>> ((2 : Int32).toUInt32 &&& Int32.toUInt32 31)).toInt32) &&& (858993459 : Int32))).toUInt32 >>> ((4 : Int32).toUInt32 &&& Int32.toUInt32 31)).toInt32)) &&& (252645135 : Int32)) + (((((((g0 - (((g0.toUInt32 >>> ((1 : Int32).toUInt32 &&& Int32.toUInt32 31)).toInt32) &&& (1431655765 : Int32))) &&& (858993459 : Int32)) + ((((g0 - (((g0.toUInt32 >>> ((1 : Int32).toUInt32 &&& Int32.toUInt32 31)).toInt32) &&& (1431655765 : Int32))).toUInt32 >>> ((2 : Int32).toUInt32 &&& Int32.toUInt32 31)).toInt32) &&& (858993459 : Int32))) + (((((g0 - (((g0.toUInt32 >>> ((1 : Int32).toUInt32 &&& Int32.toUInt32 31)).toInt32) &&& (1431655765 : Int32))) &&& (858993459 : Int32)) + ((((g0 - (((g0.toUInt32 >>> ((1 : Int32).toUInt32 &&& Int32.toUInt32 31)).toInt32) &&& (1431655765 : Int32))).toUInt32 >>> ((2 : Int32).toUInt32 &&& Int32.toUInt32 31)).toInt32) &&& (858993459 : Int32))).toUInt32 >>> ((4 : Int32).toUInt32 &&& Int32.toUInt32 31)).toInt32)) &&& (252645135 : Int32)).toUInt32 >>> ((8 : Int32).toUInt32 &&& Int32.toUInt32 31)).toInt32)) + ((((((((g0 - (((g0.toUInt32 >>> ((1 : Int32).toUInt32 &&& Int32.toUInt32 31)).toInt32) &&& (1431655765 : Int32))) &&& (858993459 : Int32)) + ((((g0 - (((g0.toUInt32 >>> ((1 : Int32).toUInt32 &&& Int32.toUInt32 31)).toInt32) &&& (1431655765 : Int32))).toUInt32 >>> ((2 : Int32).toUInt32 &&& Int32.toUInt32 31)).toInt32) &&& (858993459 : Int32))) + (((((g0 - (((g0.toUInt32 >>> ((1 : Int32).toUInt32 &&& Int32.toUInt32 31)).toInt32) &&& (1431655765 : Int32))) &&& (858993459 : Int32)) + ((((g0 - (((g0.toUInt32 >>> ((1 : Int32).toUInt32 &&& Int32.toUInt32 31)).toInt32) &&& (1431655765 : Int32))).toUInt32 >>> ((2 : Int32).toUInt32 &&& Int32.toUInt32 31)).toInt32) &&& (858993459 : Int32))).toUInt32 >>> ((4 : Int32).toUInt32 &&& Int32.toUInt32 31)).toInt32)) &&& (252645135 : Int32)) + (((((((g0 - (((g0.toUInt32 >>> ((1 : Int32).toUInt32 &&& Int32.toUInt32 31)).toInt32) &&& (1431655765 : Int32))) &&& (858993459 : Int32)) + ((((g0 - (((g0.toUInt32 >>> ((1 : Int32).toUInt32 &&& Int32.toUInt32 31)).toInt32) &&& (1431655765 : Int32))).toUInt32 >>> ((2 : Int32).toUInt32 &&& Int32.toUInt32 31)).toInt32) &&& (858993459 : Int32))) + (((((g0 - (((g0.toUInt32 >>> ((1 : Int32).toUInt32 &&& Int32.toUInt32 31)).toInt32) &&& (1431655765 : Int32))) &&& (858993459 : Int32)) + ((((g0 - (((g0.toUInt32 >>> ((1 : Int32).toUInt32 &&& Int32.toUInt32 31)).toInt32) &&& (1431655765 : Int32))).toUInt32 >>> ((2 : Int32).toUInt32 &&& Int32.toUInt32 31)).toInt32) &&& (858993459 : Int32))).toUInt32 >>> ((4 : Int32).toUInt32 &&& Int32.toUInt32 31)).toInt32)) &&& (252645135 : Int32)).toUInt32 >>> ((8 : Int32).toUInt32 &&& Int32.toUInt32 31)).toInt32)).toUInt32 >>> ((16 : Int32).toUInt32 &&& Int32.toUInt32 31)).toInt32)) &&& (63 : Int32))

noncomputable def mX3_passageCount_L4 (v_t : MZ) (self2 : (Int32 × Int32) → Option Int32) (x1 : (Int32 × Int32)) : Option Int32 :=
  (mX3_cells v_t).bind fun r3 => if r3 ≤ x1.2 then (gd (nz (2 : Int32)) (some (x1.1 / (2 : Int32)))) else ((mX7_at 36 v_t.2.2.2.1 x1.2).bind fun r4 => (mJ6_bitCount_0f7a4 r4).bind fun r5 => self2 (x1.1 + r5, x1.2 + (1 : Int32)))
noncomputable def mX3_passageCount (F : Nat) (v_t : MZ) : Option Int32 :=
  lpr (mX3_passageCount_L4 v_t) F ((0 : Int32), (0 : Int32))

noncomputable def mX3_parts (F : Nat) (v_t : MZ) : Option Int32 :=
  (mX3_cells v_t).bind fun r1 => (mX3_passageCount F v_t).bind fun r2 => some (r1 - r2)

noncomputable def mX7_carve (F : Nat) (v_o1 : MZ) (v_o3 : HS) (v_o5 : WY) (g1 : Int32) (g2 : Int32) : Option (Int32 × nF × HS × WY) :=
  (mX3_hasCell v_o1 g1).bind fun r1 => jn (fun x2 : Unit => some ((-1 : Int32), v_o1.2.2.2.1, v_o3, v_o5)) (fun j3 => if r1 = 0 then (j3 ()) else ((mX7_isDirection g2).bind fun r4 => if r4 = 0 then (j3 ()) else ((mX3_beside v_o1 g1 g2).bind fun r5 => if r5 = (-1 : Int32) then (some ((-2 : Int32), v_o1.2.2.2.1, v_o3, v_o5)) else ((mX6_findFrom F v_o5 v_o1 g1).bind fun r6 => (mX6_reach r6 r5).bind fun r7 => if r7 = 0 then ((mX2_push F v_o3 v_o1).bind fun r8 => (mX3_setPassage v_o1 g1 g2 (1 : Int32)).bind fun r9 => (mX3_parts F (v_o1.1, v_o1.2.1, v_o1.2.2.1, r9, v_o1.2.2.2.2.1, v_o1.2.2.2.2.2)).bind fun r10 => some (r10, r9, r8, r6)) else (some ((-2 : Int32), v_o1.2.2.2.1, v_o3, r6))))))

noncomputable def mX7_wall (F : Nat) (v_o1 : MZ) (v_o3 : HS) (g1 : Int32) (g2 : Int32) : Option (Int32 × nF × HS) :=
  (mX3_hasCell v_o1 g1).bind fun r1 => jn (fun x2 : Unit => some ((-1 : Int32), v_o1.2.2.2.1, v_o3)) (fun j3 => if r1 = 0 then (j3 ()) else ((mX7_isDirection g2).bind fun r4 => if r4 = 0 then (j3 ()) else ((mX3_hasPassage v_o1 g1 g2).bind fun r5 => if r5 = 0 then (some ((-2 : Int32), v_o1.2.2.2.1, v_o3)) else ((mX2_push F v_o3 v_o1).bind fun r6 => (mX3_setPassage v_o1 g1 g2 (0 : Int32)).bind fun r7 => (mX3_parts F (v_o1.1, v_o1.2.1, v_o1.2.2.1, r7, v_o1.2.2.2.2.1, v_o1.2.2.2.2.2)).bind fun r8 => some (r8, r7, r6)))))

noncomputable def mX7_isDoor (g0 : Int32) : Option Int32 :=
  jn (fun x1 : Int32 => gd (zb x1) (some x1)) (fun j2 => jn (fun x3 : Unit => j2 (0 : Int32)) (fun j4 => if g0 < 0 then (j4 ()) else (if (2 : Int32) ≤ g0 then (j4 ()) else (j2 (1 : Int32)))))

noncomputable def mX3_isDoorAt (v_t : MZ) (g1 : Int32) (g2 : Int32) (g3 : Int32) : Option Int32 :=
  (mX7_at 2 v_t.2.2.2.2.1 g1).bind fun r1 => jn (fun x2 : Int32 => gd (zb x2) (some x2)) (fun j3 => jn (fun x4 : Unit => j3 (0 : Int32)) (fun j5 => if r1 = g2 then ((mX7_at 2 v_t.2.2.2.2.2 g1).bind fun r6 => if r6 = g3 then (j3 (1 : Int32)) else (j5 ())) else (j5 ())))

noncomputable def mX7_door (F : Nat) (v_o1 : MZ) (v_o3 : HS) (g1 : Int32) (g2 : Int32) (g3 : Int32) : Option (Int32 × (nF × nF) × HS) :=
  (mX7_isDoor g1).bind fun r1 => jn (fun x2 : Unit => some ((-1 : Int32), (v_o1.2.2.2.2.1, v_o1.2.2.2.2.2), v_o3)) (fun j3 => if r1 = 0 then (j3 ()) else ((mX3_hasCell v_o1 g2).bind fun r4 => if r4 = 0 then (j3 ()) else ((mX7_isDirection g3).bind fun r5 => if r5 = 0 then (j3 ()) else (jn (fun x6 : Int32 => (mX3_beside v_o1 g2 g3).bind fun r8 => jn (fun x9 : Unit => some ((-2 : Int32), (v_o1.2.2.2.2.1, v_o1.2.2.2.2.2), v_o3)) (fun j10 => if r8 = (-1 : Int32) then ((mX3_isDoorAt v_o1 x6 g2 g3).bind fun r11 => if r11 = 0 then ((mX7_at 2 v_o1.2.2.2.2.1 g1).bind fun r12 => (mX2_push F v_o3 v_o1).bind fun r13 => (mX7_put 2 v_o1.2.2.2.2.1 g1 g2).bind fun r14 => (mX7_put 2 v_o1.2.2.2.2.2 g1 g3).bind fun r15 => some (r12, (r14, r15), r13)) else (j10 ())) else (j10 ()))) (fun j7 => if g1 = 0 then (j7 (1 : Int32)) else (j7 (0 : Int32)))))))

noncomputable def mX3_isWhole (F : Nat) (v_t : MZ) : Option Int32 :=
  (mX3_parts F v_t).bind fun r1 => jn (fun x2 : Int32 => gd (zb x2) (some x2)) (fun j3 => if r1 = (1 : Int32) then (j3 (1 : Int32)) else (j3 (0 : Int32)))

noncomputable def mX3_places (v_t : MZ) : Option Int32 :=
  (mX3_cells v_t).bind fun r1 => some ((2 : Int32) * r1)

noncomputable def mX3_lowEnd (g1 : Int32) : Option Int32 :=
  some (g1 >>> ((1 : Int32) &&& 31))

noncomputable def mX3_placeDirection (g0 : Int32) : Option Int32 :=
  jn (fun x1 : Int32 => some x1) (fun j2 => if (g0 &&& (1 : Int32)) = 0 then (j2 (1 : Int32)) else (j2 (2 : Int32)))

noncomputable def mX3_isOpenPlace (v_t : MZ) (g1 : Int32) : Option Int32 :=
  (mX3_lowEnd g1).bind fun r1 => (mX3_placeDirection g1).bind fun r2 => (mX3_hasPassage v_t r1 r2).bind fun r3 => gd (zb r3) (some r3)

noncomputable def mX3_highEnd (v_t : MZ) (g1 : Int32) : Option Int32 :=
  (mX3_lowEnd g1).bind fun r1 => (mX3_placeDirection g1).bind fun r2 => (mX3_beside v_t r1 r2).bind fun r3 => some r3

noncomputable def mX0_join_L22 (r1 : Int32) (r2 : Int32) (self4 : (Int32 × BD) → Option BD) (x3 : (Int32 × BD)) : Option BD :=
  if (Int32.ofNat 36) ≤ x3.1 then (some x3.2) else (gd (inb x3.1 36) (jn (fun x5 : BD => self4 (x3.1 + (1 : Int32), x5)) (fun j6 => if (x3.2 x3.1.toNatClampNeg) = r2 then (gd (inb x3.1 36) (j6 (upd x3.2 x3.1.toNatClampNeg r1))) else (j6 x3.2))))
noncomputable def mX0_join (F : Nat) (v_t : BD) (g1 : Int32) (g2 : Int32) : Option BD :=
  (mX7_at 36 v_t g1).bind fun r1 => (mX7_at 36 v_t g2).bind fun r2 => lpr (mX0_join_L22 r1 r2) F ((0 : Int32), v_t)

noncomputable def mX0_findParts_L26 (F : Nat) (v_p1 : MZ) (self4 : (Int32 × BD) → Option BD) (x3 : (Int32 × BD)) : Option BD :=
  (mX3_places v_p1).bind fun r5 => if r5 ≤ x3.1 then (some x3.2) else ((mX3_isOpenPlace v_p1 x3.1).bind fun r6 => jn (fun x7 : BD => self4 (x3.1 + (1 : Int32), x7)) (fun j8 => if r6 = 0 then (j8 x3.2) else ((mX3_lowEnd x3.1).bind fun r9 => (mX3_highEnd v_p1 x3.1).bind fun r10 => (mX0_join F x3.2 r9 r10).bind fun r11 => j8 r11)))
noncomputable def mX0_findParts_K24 (F : Nat) (v_p1 : MZ) (x1 : BD) : Option BD :=
  lpr (mX0_findParts_L26 F v_p1) F ((0 : Int32), x1)
noncomputable def mX0_findParts_L2 (j2 : BD → Option BD) (self13 : (Int32 × BD) → Option BD) (x12 : (Int32 × BD)) : Option BD :=
  if (Int32.ofNat 36) ≤ x12.1 then (j2 x12.2) else (gd (inb x12.1 36) (self13 (x12.1 + (1 : Int32), (upd x12.2 x12.1.toNatClampNeg x12.1))))
noncomputable def mX0_findParts (F : Nat) (v_t : BD) (v_p1 : MZ) : Option BD :=
  jn (mX0_findParts_K24 F v_p1) (fun j2 => lpr (mX0_findParts_L2 j2) F ((0 : Int32), v_t))

noncomputable def mX0_darkestPlace_L7 (v_t : BD) (v_p1 : MZ) (self2 : (Int32 × Int32 × Int32) → Option Int32) (x1 : (Int32 × Int32 × Int32)) : Option Int32 :=
  (mX3_places v_p1).bind fun r3 => if r3 ≤ x1.2.2 then (some x1.1) else ((mX3_lowEnd x1.2.2).bind fun r4 => (mX3_highEnd v_p1 x1.2.2).bind fun r5 => jn (fun x6 : (Int32 × Int32) => self2 (x6.1, x6.2, x1.2.2 + (1 : Int32))) (fun j7 => if r5 = (-1 : Int32) then (j7 (x1.1, x1.2.1)) else ((mX7_at 36 v_t r4).bind fun r8 => (mX7_at 36 v_t r5).bind fun r9 => if r8 = r9 then (j7 (x1.1, x1.2.1)) else ((mX7_at 36 v_p1.2.2.1 r4).bind fun r10 => (mX7_at 36 v_p1.2.2.1 r5).bind fun r11 => if (r10 + r11) ≤ x1.2.1 then (j7 (x1.1, x1.2.1)) else (j7 (x1.2.2, r10 + r11))))))
noncomputable def mX0_darkestPlace (F : Nat) (v_t : BD) (v_p1 : MZ) : Option Int32 :=
  lpr (mX0_darkestPlace_L7 v_t v_p1) F ((-1 : Int32), (-1 : Int32), (0 : Int32))

noncomputable def mX3_setPlace (v_t : MZ) (g1 : Int32) (g2 : Int32) : Option nF :=
  (mX3_lowEnd g1).bind fun r1 => (mX3_placeDirection g1).bind fun r2 => (mX3_setPassage v_t r1 r2 g2).bind fun r3 => some r3

noncomputable def mX0_joinAllParts_K63 (x2 : (Int32 × BD × nF)) : Option (Int32 × BD × nF) :=
  some (x2.1, x2.2.1, x2.2.2)
noncomputable def mX0_joinAllParts_K28 (j3 : (Int32 × BD × nF) → Option (Int32 × BD × nF)) (x4 : (Int32 × BD × nF)) : Option (Int32 × BD × nF) :=
  j3 (x4.1, x4.2.1, x4.2.2)
noncomputable def mX0_joinAllParts_L9 (F : Nat) (v_p1 : MZ) (j3 : (Int32 × BD × nF) → Option (Int32 × BD × nF)) (j5 : (Int32 × BD × nF) → Option (Int32 × BD × nF)) (self7 : (Int32 × Int32 × BD × nF) → Option (Int32 × BD × nF)) (x6 : (Int32 × Int32 × BD × nF)) : Option (Int32 × BD × nF) :=
  if (36 : Int32) ≤ x6.2.1 then (j3 (x6.1, x6.2.2.1, x6.2.2.2)) else ((mX0_darkestPlace F x6.2.2.1 (v_p1.1, v_p1.2.1, v_p1.2.2.1, x6.2.2.2, v_p1.2.2.2.2.1, v_p1.2.2.2.2.2)).bind fun r8 => if r8 = (-1 : Int32) then (j5 (x6.1, x6.2.2.1, x6.2.2.2)) else ((mX3_setPlace (v_p1.1, v_p1.2.1, v_p1.2.2.1, x6.2.2.2, v_p1.2.2.2.2.1, v_p1.2.2.2.2.2) r8 (1 : Int32)).bind fun r9 => (mX3_lowEnd r8).bind fun r10 => (mX3_highEnd (v_p1.1, v_p1.2.1, v_p1.2.2.1, r9, v_p1.2.2.2.2.1, v_p1.2.2.2.2.2) r8).bind fun r11 => (mX0_join F x6.2.2.1 r10 r11).bind fun r12 => self7 (x6.1 + (1 : Int32), x6.2.1 + (1 : Int32), r12, r9)))
noncomputable def mX0_joinAllParts (F : Nat) (v_t : BD) (v_p1 : MZ) : Option (Int32 × BD × nF) :=
  (mX0_findParts F v_t v_p1).bind fun r1 => jn mX0_joinAllParts_K63 (fun j3 => jn (mX0_joinAllParts_K28 j3) (fun j5 => lpr (mX0_joinAllParts_L9 F v_p1 j3 j5) F ((0 : Int32), (0 : Int32), r1, v_p1.2.2.2.1)))

noncomputable def mX7_build (F : Nat) (v_o1 : MZ) (v_o3 : HS) (v_o9 : BD) : Option (Int32 × nF × HS × BD) :=
  (mX3_isWhole F v_o1).bind fun r1 => if r1 = 0 then ((mX2_push F v_o3 v_o1).bind fun r2 => (mX0_joinAllParts F v_o9 v_o1).bind fun r3 => some (r3.1, r3.2.2, r2, r3.2.1)) else (some ((-2 : Int32), v_o1.2.2.2.1, v_o3, v_o9))

noncomputable def mX3_entryCell (v_t : MZ) : Option Int32 :=
  (mX7_at 2 v_t.2.2.2.2.1 (0 : Int32)).bind fun r1 => some r1

noncomputable def mX3_exitCell (v_t : MZ) : Option Int32 :=
  (mX7_at 2 v_t.2.2.2.2.1 (1 : Int32)).bind fun r1 => some r1

noncomputable def mX3_toneSum_L4 (v_t : MZ) (self2 : (Int32 × Int32) → Option Int32) (x1 : (Int32 × Int32)) : Option Int32 :=
  (mX3_cells v_t).bind fun r3 => if r3 ≤ x1.2 then (some x1.1) else ((mX7_at 36 v_t.2.2.1 x1.2).bind fun r4 => self2 (x1.1 + r4, x1.2 + (1 : Int32)))
noncomputable def mX3_toneSum (F : Nat) (v_t : MZ) : Option Int32 :=
  lpr (mX3_toneSum_L4 v_t) F ((0 : Int32), (0 : Int32))

noncomputable def mX1_cut_L59 (v_p3 : WY) (self10 : (Int32 × nF) → Option nF) (x9 : (Int32 × nF)) : Option nF :=
  if v_p3.1 ≤ x9.1 then (some x9.2) else ((mX7_at 36 v_p3.2.1 x9.1).bind fun r11 => (mX7_at 36 v_p3.2.2.1 r11).bind fun r12 => (mX7_at 36 x9.2 r12).bind fun r13 => jn (fun x14 : nF => self10 (x9.1 + (1 : Int32), x14)) (fun j15 => if r13 = (1 : Int32) then ((mX7_put 36 x9.2 r11 (1 : Int32)).bind fun r16 => j15 r16) else (j15 x9.2)))
noncomputable def mX1_cut (F : Nat) (v_t : EX) (v_p1 : MZ) (v_p3 : WY) (g2 : Int32) : Option nF :=
  (mX3_lowEnd g2).bind fun r1 => (mX3_highEnd v_p1 g2).bind fun r2 => (mX6_lengthTo v_p3 r1).bind fun r3 => (mX6_lengthTo v_p3 r2).bind fun r4 => jn (fun x5 : Int32 => (mJ7_fill_53178 F 36 v_t.2.2.2.2.2 (0 : Int32)).bind fun r7 => (mX7_put 36 r7 x5 (1 : Int32)).bind fun r8 => lpr (mX1_cut_L59 v_p3) F ((1 : Int32), r8)) (fun j6 => if r3 ≤ r4 then (j6 r2) else (j6 r1))

noncomputable def mX1_findMade_L25 (v_t : EX) (v_p1 : MZ) (v_p3 : WY) (v_p4 : WY) (g2 : Int32) (x3 : Int32) (self6 : (Int32 × Int32 × Int32 × Int32) → Option (Int32 × Int32 × Int32)) (x5 : (Int32 × Int32 × Int32 × Int32)) : Option (Int32 × Int32 × Int32) :=
  (mX3_places v_p1).bind fun r7 => if r7 ≤ x5.1 then (some (x5.2.1, x5.2.2.1, x5.2.2.2)) else ((mX3_lowEnd x5.1).bind fun r8 => (mX3_highEnd v_p1 x5.1).bind fun r9 => jn (fun x10 : (Int32 × Int32 × Int32) => self6 (x5.1 + (1 : Int32), x10.1, x10.2.1, x10.2.2)) (fun j11 => if r9 = (-1 : Int32) then (j11 (x5.2.1, x5.2.2.1, x5.2.2.2)) else ((mX3_isOpenPlace v_p1 x5.1).bind fun r12 => if r12 = 0 then ((mX7_at 36 v_t.2.2.2.2.2 r8).bind fun r13 => (mX7_at 36 v_t.2.2.2.2.2 r9).bind fun r14 => if r13 = r14 then (j11 (x5.2.1, x5.2.2.1, x5.2.2.2)) else ((mX7_at 36 v_t.2.2.2.2.2 r8).bind fun r15 => jn (fun x16 : Int32 => jn (fun x18 : Int32 => jn (fun x20 : Int32 => jn (fun x22 : Unit => j11 (g2, x5.1, x20)) (fun j23 => if x5.2.2.1 = (-1 : Int32) then (j23 ()) else (if x5.2.2.2 ≤ x20 then (j11 (x5.2.1, x5.2.2.1, x5.2.2.2)) else (j23 ())))) (fun j21 => if x3 = 0 then (j21 v_t.2.2.1) else ((mX7_at 36 v_p3.2.2.2.2 x16).bind fun r24 => (mX7_at 36 v_p4.2.2.2.2 x18).bind fun r25 => j21 ((v_t.2.2.2.2.1 + r24) + r25)))) (fun j19 => if x16 = r8 then (j19 r9) else (j19 r8))) (fun j17 => if r15 = 0 then (j17 r8) else (j17 r9)))) else (j11 (x5.2.1, x5.2.2.1, x5.2.2.2)))))
noncomputable def mX1_findMade (F : Nat) (v_t : EX) (v_p1 : MZ) (v_p3 : WY) (v_p4 : WY) (g2 : Int32) : Option (Int32 × Int32 × Int32) :=
  (mX3_exitCell v_p1).bind fun r1 => (mX7_at 36 v_t.2.2.2.2.2 r1).bind fun r2 => jn (fun x3 : Int32 => lpr (mX1_findMade_L25 v_t v_p1 v_p3 v_p4 g2 x3) F ((0 : Int32), v_t.1, v_t.2.1, v_t.2.2.2.1)) (fun j4 => if r2 = (1 : Int32) then (j4 (1 : Int32)) else (j4 (0 : Int32)))

noncomputable def mX1_find_L67 (F : Nat) (v_p1 : MZ) (r2 : WY) (r4 : WY) (r5 : Int32) (r7 : Int32) (self9 : (Int32 × Int32 × Int32 × Int32 × nF) → Option (EX × WY × WY)) (x8 : (Int32 × Int32 × Int32 × Int32 × nF)) : Option (EX × WY × WY) :=
  (mX3_places v_p1).bind fun r10 => if r10 ≤ x8.1 then (some ((x8.2.1, x8.2.2.1, r5 + r7, x8.2.2.2.1, r5, x8.2.2.2.2), r2, r4)) else ((mX3_isOpenPlace v_p1 x8.1).bind fun r11 => jn (fun x12 : (Int32 × Int32 × Int32 × nF) => self9 (x8.1 + (1 : Int32), x12.1, x12.2.1, x12.2.2.1, x12.2.2.2)) (fun j13 => if r11 = 0 then (j13 (x8.2.1, x8.2.2.1, x8.2.2.2.1, x8.2.2.2.2)) else ((mX1_cut F (x8.2.1, x8.2.2.1, r5 + r7, x8.2.2.2.1, r5, x8.2.2.2.2) v_p1 r2 x8.1).bind fun r14 => (mX1_findMade F (x8.2.1, x8.2.2.1, r5 + r7, x8.2.2.2.1, r5, r14) v_p1 r2 r4 x8.1).bind fun r15 => j13 (r15.1, r15.2.1, r15.2.2, r14))))
noncomputable def mX1_find (F : Nat) (v_t : EX) (v_p1 : MZ) (v_p2 : WY) (v_p3 : WY) : Option (EX × WY × WY) :=
  (mX3_entryCell v_p1).bind fun r1 => (mX6_findFrom F v_p2 v_p1 r1).bind fun r2 => (mX3_exitCell v_p1).bind fun r3 => (mX6_findFrom F v_p3 v_p1 r3).bind fun r4 => (mX3_toneSum F v_p1).bind fun r5 => (mX3_exitCell v_p1).bind fun r6 => (mX7_at 36 r2.2.2.2.2 r6).bind fun r7 => lpr (mX1_find_L67 F v_p1 r2 r4 r5 r7) F ((0 : Int32), (-1 : Int32), (-1 : Int32), r5 + r7, v_t.2.2.2.2.2)

noncomputable def mX7_findBetterExchange (F : Nat) (v_o1 : MZ) (v_o6 : WY) (v_o7 : WY) (v_o10 : EX) : Option (Int32 × WY × WY × EX) :=
  (mX1_find F v_o10 v_o1 v_o6 v_o7).bind fun r1 => jn (fun x2 : Int32 => gd (zb x2) (some (x2, r1.2.1, r1.2.2, r1.1))) (fun j3 => jn (fun x4 : Unit => j3 (0 : Int32)) (fun j5 => if r1.1.2.1 = (-1 : Int32) then (j5 ()) else (if r1.1.2.2.1 ≤ r1.1.2.2.2.1 then (j5 ()) else (j3 (1 : Int32)))))

noncomputable def mX1_apply (v_t : EX) (v_p1 : MZ) : Option nF :=
  (mX3_setPlace v_p1 v_t.1 (0 : Int32)).bind fun r1 => (mX3_setPlace (v_p1.1, v_p1.2.1, v_p1.2.2.1, r1, v_p1.2.2.2.2.1, v_p1.2.2.2.2.2) v_t.2.1 (1 : Int32)).bind fun r2 => some r2

noncomputable def mX7_exchange (F : Nat) (v_o1 : MZ) (v_o3 : HS) (v_o6 : WY) (v_o7 : WY) (v_o10 : EX) : Option (Int32 × nF × HS × WY × WY × EX) :=
  (mX3_isWhole F v_o1).bind fun r1 => jn (fun x2 : (WY × WY × EX) => some ((-2 : Int32), v_o1.2.2.2.1, v_o3, x2.1, x2.2.1, x2.2.2)) (fun j3 => if r1 = 0 then (j3 (v_o6, v_o7, v_o10)) else ((mX7_findBetterExchange F v_o1 v_o6 v_o7 v_o10).bind fun r4 => if r4.1 = 0 then (j3 (r4.2.1, r4.2.2.1, r4.2.2.2)) else ((mX2_push F v_o3 v_o1).bind fun r5 => (mX1_apply r4.2.2.2 v_o1).bind fun r6 => some (r4.2.2.2.2.2.2.1, r6, r5, r4.2.1, r4.2.2.1, r4.2.2.2))))

noncomputable def mX7_improve_K59 (r2 : HS) (x3 : (Int32 × nF × WY × WY × EX)) : Option (Int32 × nF × HS × WY × WY × EX) :=
  some (x3.1, x3.2.1, r2, x3.2.2.1, x3.2.2.2.1, x3.2.2.2.2)
noncomputable def mX7_improve_L30 (F : Nat) (v_o1 : MZ) (j4 : (Int32 × nF × WY × WY × EX) → Option (Int32 × nF × HS × WY × WY × EX)) (self6 : (Int32 × nF × WY × WY × EX) → Option (Int32 × nF × HS × WY × WY × EX)) (x5 : (Int32 × nF × WY × WY × EX)) : Option (Int32 × nF × HS × WY × WY × EX) :=
  if (324 : Int32) ≤ x5.1 then (j4 (x5.1, x5.2.1, x5.2.2.1, x5.2.2.2.1, x5.2.2.2.2)) else ((mX7_findBetterExchange F (v_o1.1, v_o1.2.1, v_o1.2.2.1, x5.2.1, v_o1.2.2.2.2.1, v_o1.2.2.2.2.2) x5.2.2.1 x5.2.2.2.1 x5.2.2.2.2).bind fun r7 => if r7.1 = 0 then (j4 (x5.1, x5.2.1, r7.2.1, r7.2.2.1, r7.2.2.2)) else ((mX1_apply r7.2.2.2 (v_o1.1, v_o1.2.1, v_o1.2.2.1, x5.2.1, v_o1.2.2.2.2.1, v_o1.2.2.2.2.2)).bind fun r8 => self6 (x5.1 + (1 : Int32), r8, r7.2.1, r7.2.2.1, r7.2.2.2)))
noncomputable def mX7_improve (F : Nat) (v_o1 : MZ) (v_o3 : HS) (v_o6 : WY) (v_o7 : WY) (v_o10 : EX) : Option (Int32 × nF × HS × WY × WY × EX) :=
  (mX3_isWhole F v_o1).bind fun r1 => if r1 = 0 then (some ((-2 : Int32), v_o1.2.2.2.1, v_o3, v_o6, v_o7, v_o10)) else ((mX2_push F v_o3 v_o1).bind fun r2 => jn (mX7_improve_K59 r2) (fun j4 => lpr (mX7_improve_L30 F v_o1 j4) F ((0 : Int32), v_o1.2.2.2.1, v_o6, v_o7, v_o10)))

noncomputable def mX5_opposite (g0 : Int32) : Option Int32 :=
  gd (nz (4 : Int32)) (some ((g0 + (2 : Int32)) - (g0 + (2 : Int32)) / (4 : Int32) * (4 : Int32)))

noncomputable def mX5_come (v_t : WK) (g1 : Int32) (g2 : Int32) : Option (Int32 × nF × nF) :=
  (mX7_at 36 v_t.2.2.2 g1).bind fun r1 => (mX7_put 36 v_t.2.2.2 g1 (r1 ||| ((1 : Int32) <<< (g2 &&& 31)))).bind fun r2 => (mX7_at 36 v_t.2.2.1 g1).bind fun r3 => (mX7_put 36 v_t.2.2.1 g1 (r3 + (1 : Int32))).bind fun r4 => some (v_t.2.1 + (1 : Int32), r4, r2)

noncomputable def mX5_turn_K39 (x1 : Int32) : Option Int32 :=
  some x1
noncomputable def mX5_turn_L2 (v_p0 : MZ) (g1 : Int32) (g2 : Int32) (j2 : Int32 → Option Int32) (self4 : Int32 → Option Int32) (x3 : Int32) : Option Int32 :=
  if (4 : Int32) ≤ x3 then (some (-1 : Int32)) else (gd (nz (4 : Int32)) ((mX3_hasPassage v_p0 g1 ((((g2 + (1 : Int32)) + (4 : Int32)) - x3) - (((g2 + (1 : Int32)) + (4 : Int32)) - x3) / (4 : Int32) * (4 : Int32))).bind fun r5 => if r5 = 0 then ((mX3_isDoorAt v_p0 (1 : Int32) g1 ((((g2 + (1 : Int32)) + (4 : Int32)) - x3) - (((g2 + (1 : Int32)) + (4 : Int32)) - x3) / (4 : Int32) * (4 : Int32))).bind fun r6 => if r6 = 0 then (self4 (x3 + (1 : Int32))) else (j2 ((((g2 + (1 : Int32)) + (4 : Int32)) - x3) - (((g2 + (1 : Int32)) + (4 : Int32)) - x3) / (4 : Int32) * (4 : Int32)))) else (j2 ((((g2 + (1 : Int32)) + (4 : Int32)) - x3) - (((g2 + (1 : Int32)) + (4 : Int32)) - x3) / (4 : Int32) * (4 : Int32)))))
noncomputable def mX5_turn (F : Nat) (v_p0 : MZ) (g1 : Int32) (g2 : Int32) : Option Int32 :=
  jn mX5_turn_K39 (fun j2 => lpr (mX5_turn_L2 v_p0 g1 g2 j2) F (0 : Int32))

noncomputable def mX5_take_L46 (F : Nat) (v_p1 : MZ) (self7 : (Int32 × Int32 × Int32 × Int32 × nF × nF) → Option WK) (x6 : (Int32 × Int32 × Int32 × Int32 × nF × nF)) : Option WK :=
  if (144 : Int32) < x6.2.2.1 then (some ((1 : Int32), x6.2.2.2.1, x6.2.2.2.2.1, x6.2.2.2.2.2)) else ((mX7_at 36 x6.2.2.2.2.2 x6.1).bind fun r8 => if (r8 &&& ((1 : Int32) <<< (x6.2.1 &&& 31))) = 0 then ((mX5_come ((1 : Int32), x6.2.2.2.1, x6.2.2.2.2.1, x6.2.2.2.2.2) x6.1 x6.2.1).bind fun r9 => (mX5_turn F v_p1 x6.1 x6.2.1).bind fun r10 => if r10 = (-1 : Int32) then (some ((1 : Int32), r9.1, r9.2.1, r9.2.2)) else ((mX3_isDoorAt v_p1 (1 : Int32) x6.1 r10).bind fun r11 => if r11 = 0 then ((mX3_beside v_p1 x6.1 r10).bind fun r12 => self7 (r12, r10, x6.2.2.1 + (1 : Int32), r9.1, r9.2.1, r9.2.2)) else (gd (zb (0 : Int32)) (some ((0 : Int32), r9.1, r9.2.1, r9.2.2))))) else (some ((1 : Int32), x6.2.2.2.1, x6.2.2.2.2.1, x6.2.2.2.2.2)))
noncomputable def mX5_take (F : Nat) (v_t : WK) (v_p1 : MZ) : Option WK :=
  (mJ7_fill_53178 F 36 v_t.2.2.1 (0 : Int32)).bind fun r1 => (mJ7_fill_53178 F 36 v_t.2.2.2 (0 : Int32)).bind fun r2 => gd (zb (1 : Int32)) ((mX3_entryCell v_p1).bind fun r3 => (mX7_at 2 v_p1.2.2.2.2.2 (0 : Int32)).bind fun r4 => (mX5_opposite r4).bind fun r5 => lpr (mX5_take_L46 F v_p1) F (r3, r5, (0 : Int32), (0 : Int32), r1, r2))

noncomputable def mX7_hasWay (F : Nat) (v_o1 : MZ) (v_o7 : WY) : Option (Int32 × WY) :=
  (mX3_exitCell v_o1).bind fun r1 => (mX6_findFrom F v_o7 v_o1 r1).bind fun r2 => (mX3_entryCell v_o1).bind fun r3 => (mX6_reach r2 r3).bind fun r4 => gd (zb r4) (some (r4, r2))

noncomputable def mX7_isOnWay (F : Nat) (v_o1 : MZ) (v_o6 : WY) (v_o7 : WY) (g1 : Int32) : Option (Int32 × WY × WY) :=
  (mX7_hasWay F v_o1 v_o7).bind fun r1 => jn (fun x2 : Unit => gd (zb (0 : Int32)) (some ((0 : Int32), v_o6, r1.2))) (fun j3 => if r1.1 = 0 then (j3 ()) else ((mX6_reach r1.2 g1).bind fun r4 => if r4 = 0 then (j3 ()) else ((mX3_entryCell v_o1).bind fun r5 => (mX6_findFrom F v_o6 v_o1 r5).bind fun r6 => (mX6_lengthTo r6 g1).bind fun r7 => (mX6_lengthTo r1.2 g1).bind fun r8 => (mX3_entryCell v_o1).bind fun r9 => (mX6_lengthTo r1.2 r9).bind fun r10 => jn (fun x11 : Int32 => gd (zb x11) (some (x11, r6, r1.2))) (fun j12 => if (r7 + r8) = r10 then (j12 (1 : Int32)) else (j12 (0 : Int32))))))

noncomputable def mX7_between (F : Nat) (v_o1 : MZ) (v_o5 : WY) (g1 : Int32) (g2 : Int32) : Option (Int32 × WY) :=
  (mX3_hasCell v_o1 g1).bind fun r1 => jn (fun x2 : Unit => some ((-1 : Int32), v_o5)) (fun j3 => if r1 = 0 then (j3 ()) else ((mX3_hasCell v_o1 g2).bind fun r4 => if r4 = 0 then (j3 ()) else ((mX6_findFrom F v_o5 v_o1 g1).bind fun r5 => (mX6_reach r5 g2).bind fun r6 => jn (fun x7 : Int32 => some (x7, r5)) (fun j8 => if r6 = 0 then (j8 (-4 : Int32)) else ((mX6_lengthTo r5 g2).bind fun r9 => j8 r9)))))

noncomputable def mX6_lowestCell_L11 (v_t : WY) (self3 : (Int32 × Int32) → Option Int32) (x2 : (Int32 × Int32)) : Option Int32 :=
  if v_t.1 ≤ x2.2 then (some x2.1) else ((mX7_at 36 v_t.2.1 x2.2).bind fun r4 => self3 ((if r4 < x2.1 then r4 else x2.1), x2.2 + (1 : Int32)))
noncomputable def mX6_lowestCell (F : Nat) (v_t : WY) : Option Int32 :=
  (mX7_at 36 v_t.2.1 (0 : Int32)).bind fun r1 => lpr (mX6_lowestCell_L11 v_t) F (r1, (1 : Int32))

noncomputable def mX7_cellOf (F : Nat) (v_o1 : MZ) (v_o5 : WY) (v_o6 : WY) (v_o7 : WY) (v_o8 : WK) (g1 : Int32) (g2 : Int32) : Option (Int32 × WY × WY × WY × WK) :=
  (mX3_hasCell v_o1 g1).bind fun r1 => if r1 = 0 then (some ((-1 : Int32), v_o5, v_o6, v_o7, v_o8)) else (if g2 = (0 : Int32) then ((mX7_at 36 v_o1.2.2.1 g1).bind fun r3 => some (r3, v_o5, v_o6, v_o7, v_o8)) else if g2 = (1 : Int32) then ((mX7_at 36 v_o1.2.2.2.1 g1).bind fun r5 => some (r5, v_o5, v_o6, v_o7, v_o8)) else if g2 = (2 : Int32) then ((mX6_findFrom F v_o5 v_o1 g1).bind fun r7 => (mX6_lowestCell F r7).bind fun r8 => some (r8, r7, v_o6, v_o7, v_o8)) else if g2 = (3 : Int32) then ((mX6_findFrom F v_o5 v_o1 g1).bind fun r10 => some (r10.1, r10, v_o6, v_o7, v_o8)) else if g2 = (4 : Int32) then ((mX3_entryCell v_o1).bind fun r12 => (mX7_between F v_o1 v_o5 r12 g1).bind fun r13 => some (r13.1, r13.2, v_o6, v_o7, v_o8)) else if g2 = (5 : Int32) then ((mX7_isOnWay F v_o1 v_o6 v_o7 g1).bind fun r15 => jn (fun x16 : Int32 => some (x16, v_o5, r15.2.1, r15.2.2, v_o8)) (fun j17 => if r15.1 = 0 then (j17 (0 : Int32)) else (j17 (1 : Int32)))) else if g2 = (6 : Int32) then ((mX5_take F v_o8 v_o1).bind fun r19 => jn (fun x20 : Int32 => some (x20, v_o5, v_o6, v_o7, r19)) (fun j21 => if r19.1 = 0 then ((mX7_at 36 r19.2.2.1 g1).bind fun r22 => j21 r22) else (j21 (-4 : Int32)))) else (some ((-1 : Int32), v_o5, v_o6, v_o7, v_o8)))

noncomputable def mX7_doorOf (v_o1 : MZ) (g1 : Int32) (g2 : Int32) : Option Int32 :=
  (mX7_isDoor g1).bind fun r1 => if r1 = 0 then (some (-1 : Int32)) else (if g2 = (0 : Int32) then ((mX7_at 2 v_o1.2.2.2.2.1 g1).bind fun r3 => some r3) else if g2 = (1 : Int32) then ((mX7_at 2 v_o1.2.2.2.2.2 g1).bind fun r5 => some r5) else (some (-1 : Int32)))

noncomputable def mX3_deadEnds_L4 (v_t : MZ) (self2 : (Int32 × Int32) → Option Int32) (x1 : (Int32 × Int32)) : Option Int32 :=
  (mX3_cells v_t).bind fun r3 => if r3 ≤ x1.2 then (some x1.1) else ((mX7_at 36 v_t.2.2.2.1 x1.2).bind fun r4 => (mJ6_bitCount_0f7a4 r4).bind fun r5 => jn (fun x6 : Int32 => self2 (x6, x1.2 + (1 : Int32))) (fun j7 => if r5 = (1 : Int32) then (j7 (x1.1 + (1 : Int32))) else (j7 x1.1)))
noncomputable def mX3_deadEnds (F : Nat) (v_t : MZ) : Option Int32 :=
  lpr (mX3_deadEnds_L4 v_t) F ((0 : Int32), (0 : Int32))

noncomputable def mX7_count (F : Nat) (m_hasSnapshot : Int32) (v_o1 : MZ) (v_o3 : HS) (v_o4 : PT) (g1 : Int32) : Option Int32 :=
  if g1 = (0 : Int32) then (some v_o1.1) else if g1 = (1 : Int32) then (some v_o1.2.1) else if g1 = (2 : Int32) then ((mX3_passageCount F v_o1).bind fun r4 => some r4) else if g1 = (3 : Int32) then ((mX3_parts F v_o1).bind fun r6 => some r6) else if g1 = (4 : Int32) then ((mX3_isWhole F v_o1).bind fun r8 => jn (fun x9 : Int32 => some x9) (fun j10 => if r8 = 0 then (j10 (0 : Int32)) else (j10 (1 : Int32)))) else if g1 = (5 : Int32) then ((mX3_deadEnds F v_o1).bind fun r12 => some r12) else if g1 = (6 : Int32) then ((mX3_toneSum F v_o1).bind fun r14 => some r14) else if g1 = (7 : Int32) then (some v_o3.1) else if g1 = (8 : Int32) then (some v_o4.1) else if g1 = (9 : Int32) then (jn (fun x18 : Int32 => some x18) (fun j19 => if m_hasSnapshot = 0 then (j19 (0 : Int32)) else (j19 (1 : Int32)))) else (some (-1 : Int32))

noncomputable def mX7_way_L55 (g1 : Int32) (r2 : WY) (self7 : (Int32 × Int32) → Option (Int32 × WY)) (x6 : (Int32 × Int32)) : Option (Int32 × WY) :=
  if g1 ≤ x6.2 then (some (x6.1, r2)) else ((mX7_at 36 r2.2.2.1 x6.1).bind fun r8 => self7 (r8, x6.2 + (1 : Int32)))
noncomputable def mX7_way (F : Nat) (v_o1 : MZ) (v_o7 : WY) (g1 : Int32) : Option (Int32 × WY) :=
  if 0 ≤ g1 then ((mX3_exitCell v_o1).bind fun r1 => (mX6_findFrom F v_o7 v_o1 r1).bind fun r2 => (mX3_entryCell v_o1).bind fun r3 => (mX6_lengthTo r2 r3).bind fun r4 => if g1 ≤ r4 then ((mX3_entryCell v_o1).bind fun r5 => lpr (mX7_way_L55 g1 r2) F (r5, (0 : Int32))) else (some ((-4 : Int32), r2))) else (some ((-1 : Int32), v_o7))

noncomputable def mX7_wayTurns_L25 (v_o7 : WY) (r2 : Int32) (self4 : (Int32 × Int32 × Int32 × Int32) → Option Int32) (x3 : (Int32 × Int32 × Int32 × Int32)) : Option Int32 :=
  if r2 ≤ x3.2.2.2 then (some x3.2.1) else ((mX7_at 36 v_o7.2.2.1 x3.1).bind fun r5 => jn (fun x6 : Int32 => self4 (r5, x6, r5 - x3.1, x3.2.2.2 + (1 : Int32))) (fun j7 => if x3.2.2.2 ≤ 0 then (j7 x3.2.1) else (if (r5 - x3.1) = x3.2.2.1 then (j7 x3.2.1) else (j7 (x3.2.1 + (1 : Int32))))))
noncomputable def mX7_wayTurns (F : Nat) (v_o1 : MZ) (v_o7 : WY) : Option Int32 :=
  (mX3_entryCell v_o1).bind fun r1 => (mX6_lengthTo v_o7 r1).bind fun r2 => lpr (mX7_wayTurns_L25 v_o7 r2) F (r1, (0 : Int32), (0 : Int32), (0 : Int32))

noncomputable def mX5_faultOn_L4 (v_t : WK) (v_p1 : MZ) (self2 : (Int32 × Int32) → Option Int32) (x1 : (Int32 × Int32)) : Option Int32 :=
  (mX3_cells v_p1).bind fun r3 => if r3 ≤ x1.2 then (some x1.1) else ((mX7_at 36 v_t.2.2.1 x1.2).bind fun r4 => (mX7_at 36 v_p1.2.2.1 x1.2).bind fun r5 => self2 (x1.1 + (if 0 ≤ (r5 - (if (9 : Int32) < ((3 : Int32) * r4) then (9 : Int32) else ((3 : Int32) * r4))) then (r5 - (if (9 : Int32) < ((3 : Int32) * r4) then (9 : Int32) else ((3 : Int32) * r4))) else 0 - (r5 - (if (9 : Int32) < ((3 : Int32) * r4) then (9 : Int32) else ((3 : Int32) * r4)))), x1.2 + (1 : Int32)))
noncomputable def mX5_faultOn (F : Nat) (v_t : WK) (v_p1 : MZ) : Option Int32 :=
  lpr (mX5_faultOn_L4 v_t v_p1) F ((0 : Int32), (0 : Int32))

noncomputable def mX7_wayFault (F : Nat) (v_o1 : MZ) (v_o7 : WY) : Option (Int32 × WY) :=
  (mX3_toneSum F v_o1).bind fun r1 => (mX7_hasWay F v_o1 v_o7).bind fun r2 => jn (fun x3 : Int32 => some (x3, r2.2)) (fun j4 => if r2.1 = 0 then (j4 r1) else ((mX3_entryCell v_o1).bind fun r5 => (mX7_at 36 r2.2.2.2.2.2 r5).bind fun r6 => j4 (r1 + r6)))

noncomputable def mX7_drawn (F : Nat) (v_o1 : MZ) (v_o7 : WY) (v_o8 : WK) (g1 : Int32) : Option (Int32 × WY × WK) :=
  if g1 = (0 : Int32) then ((mX7_hasWay F v_o1 v_o7).bind fun r2 => jn (fun x3 : Int32 => some (x3, r2.2, v_o8)) (fun j4 => if r2.1 = 0 then (j4 (-4 : Int32)) else ((mX3_entryCell v_o1).bind fun r5 => (mX6_lengthTo r2.2 r5).bind fun r6 => j4 (r6 + (1 : Int32))))) else if g1 = (1 : Int32) then ((mX7_wayFault F v_o1 v_o7).bind fun r8 => some (r8.1, r8.2, v_o8)) else if g1 = (2 : Int32) then ((mX5_take F v_o8 v_o1).bind fun r10 => jn (fun x11 : Int32 => some (x11, v_o7, r10)) (fun j12 => if r10.1 = 0 then (j12 r10.2.1) else (j12 (-4 : Int32)))) else if g1 = (3 : Int32) then ((mX5_take F v_o8 v_o1).bind fun r14 => jn (fun x15 : Int32 => some (x15, v_o7, r14)) (fun j16 => if r14.1 = 0 then ((mX5_faultOn F r14 v_o1).bind fun r17 => j16 r17) else (j16 (-4 : Int32)))) else if g1 = (4 : Int32) then ((mX7_hasWay F v_o1 v_o7).bind fun r19 => jn (fun x20 : Int32 => some (x20, r19.2, v_o8)) (fun j21 => if r19.1 = 0 then (j21 (-4 : Int32)) else ((mX7_wayTurns F v_o1 r19.2).bind fun r22 => j21 r22))) else (some ((-1 : Int32), v_o7, v_o8))

noncomputable def mX7_choose (g0 : Int32) (g1 : Int32) (g2 : Int32) (g3 : Int32) : Option Int32 :=
  if g0 = 0 then (some g1) else (jn (fun x1 : Int32 => some x1) (fun j2 => if g0 = (1 : Int32) then (j2 g2) else (j2 g3)))

noncomputable def mX7_farthest_K107 (g1 : Int32) (x3 : (Int32 × Int32 × Int32 × WY)) : Option (Int32 × WY) :=
  jn (fun x5 : Int32 => some (x5, x3.2.2.2)) (fun j6 => if x3.2.2.1 = 0 then (j6 (-4 : Int32)) else ((mX7_choose g1 x3.1 x3.2.1 x3.2.2.1).bind fun r7 => j6 r7))
noncomputable def mX7_farthest_K101 (self9 : (Int32 × Int32 × Int32 × Int32 × WY) → Option (Int32 × WY)) (x8 : (Int32 × Int32 × Int32 × Int32 × WY)) (r11 : WY) (x12 : (Int32 × Int32 × Int32)) : Option (Int32 × WY) :=
  self9 (x12.1, x12.2.1, x12.2.2, x8.2.2.2.1 + (1 : Int32), r11)
noncomputable def mX7_farthest_L52 (v_o1 : MZ) (x8 : (Int32 × Int32 × Int32 × Int32 × WY)) (r11 : WY) (j13 : (Int32 × Int32 × Int32) → Option (Int32 × WY)) (self15 : (Int32 × Int32 × Int32 × Int32) → Option (Int32 × WY)) (x14 : (Int32 × Int32 × Int32 × Int32)) : Option (Int32 × WY) :=
  (mX3_cells v_o1).bind fun r16 => if r16 ≤ x14.2.2.2 then (j13 (x14.1, x14.2.1, x14.2.2.1)) else ((mX6_lengthTo r11 x14.2.2.2).bind fun r17 => jn (fun x18 : (Int32 × Int32 × Int32) => self15 (x18.1, x18.2.1, x18.2.2, x14.2.2.2 + (1 : Int32))) (fun j19 => if r17 ≤ x14.2.2.1 then (j19 (x14.1, x14.2.1, x14.2.2.1)) else ((mX6_lengthTo r11 x14.2.2.2).bind fun r20 => j19 (x8.2.2.2.1, x14.2.2.2, r20))))
noncomputable def mX7_farthest_L21 (F : Nat) (v_o1 : MZ) (j4 : (Int32 × Int32 × Int32 × WY) → Option (Int32 × WY)) (self9 : (Int32 × Int32 × Int32 × Int32 × WY) → Option (Int32 × WY)) (x8 : (Int32 × Int32 × Int32 × Int32 × WY)) : Option (Int32 × WY) :=
  (mX3_cells v_o1).bind fun r10 => if r10 ≤ x8.2.2.2.1 then (j4 (x8.1, x8.2.1, x8.2.2.1, x8.2.2.2.2)) else ((mX6_findFrom F x8.2.2.2.2 v_o1 x8.2.2.2.1).bind fun r11 => jn (mX7_farthest_K101 self9 x8 r11) (fun j13 => lpr (mX7_farthest_L52 v_o1 x8 r11 j13) F (x8.1, x8.2.1, x8.2.2.1, x8.2.2.2.1 + (1 : Int32))))
noncomputable def mX7_farthest (F : Nat) (v_o1 : MZ) (v_o5 : WY) (g1 : Int32) : Option (Int32 × WY) :=
  jn (fun x1 : Unit => some ((-1 : Int32), v_o5)) (fun j2 => if g1 < 0 then (j2 ()) else (if g1 ≤ (2 : Int32) then (jn (mX7_farthest_K107 g1) (fun j4 => lpr (mX7_farthest_L21 F v_o1 j4) F ((-1 : Int32), (-1 : Int32), (0 : Int32), (0 : Int32), v_o5))) else (j2 ())))

noncomputable def mX7_best (F : Nat) (v_o1 : MZ) (v_o6 : WY) (v_o7 : WY) (v_o10 : EX) (g1 : Int32) : Option (Int32 × WY × WY × EX) :=
  jn (fun x1 : Unit => some ((-1 : Int32), v_o6, v_o7, v_o10)) (fun j2 => if g1 < 0 then (j2 ()) else (if g1 ≤ (2 : Int32) then ((mX3_isWhole F v_o1).bind fun r3 => if r3 = 0 then (some ((-2 : Int32), v_o6, v_o7, v_o10)) else ((mX1_find F v_o10 v_o1 v_o6 v_o7).bind fun r4 => (mX7_choose g1 r4.1.1 r4.1.2.1 r4.1.2.2.2.1).bind fun r5 => some (r5, r4.2.1, r4.2.2, r4.1))) else (j2 ())))

noncomputable def mX7_freeSide_L2 (v_o1 : MZ) (g1 : Int32) (self2 : Int32 → Option Int32) (x1 : Int32) : Option Int32 :=
  if (4 : Int32) ≤ x1 then (some (-1 : Int32)) else ((mX3_beside v_o1 g1 x1).bind fun r3 => jn (fun x4 : Unit => self2 (x1 + (1 : Int32))) (fun j5 => if r3 = (-1 : Int32) then ((mX3_isDoorAt v_o1 (0 : Int32) g1 x1).bind fun r6 => if r6 = 0 then (some x1) else (j5 ())) else (j5 ())))
noncomputable def mX7_freeSide (F : Nat) (v_o1 : MZ) (g1 : Int32) : Option Int32 :=
  lpr (mX7_freeSide_L2 v_o1 g1) F (0 : Int32)

noncomputable def mX7_bestExit_K131 (g1 : Int32) (r4 : WY) (x6 : (Int32 × Int32 × Int32)) : Option (Int32 × WY) :=
  jn (fun x8 : Int32 => some (x8, r4)) (fun j9 => if x6.1 = (-1 : Int32) then (j9 (-4 : Int32)) else ((mX7_choose g1 x6.1 x6.2.1 x6.2.2).bind fun r10 => j9 r10))
noncomputable def mX7_bestExit_L48 (F : Nat) (v_o1 : MZ) (r4 : WY) (r5 : Int32) (j7 : (Int32 × Int32 × Int32) → Option (Int32 × WY)) (self12 : (Int32 × Int32 × Int32 × Int32) → Option (Int32 × WY)) (x11 : (Int32 × Int32 × Int32 × Int32)) : Option (Int32 × WY) :=
  (mX3_cells v_o1).bind fun r13 => if r13 ≤ x11.2.2.2 then (j7 (x11.1, x11.2.1, x11.2.2.1)) else ((mX7_freeSide F v_o1 x11.2.2.2).bind fun r14 => jn (fun x15 : (Int32 × Int32 × Int32) => self12 (x15.1, x15.2.1, x15.2.2, x11.2.2.2 + (1 : Int32))) (fun j16 => if r14 = (-1 : Int32) then (j16 (x11.1, x11.2.1, x11.2.2.1)) else ((mX6_reach r4 x11.2.2.2).bind fun r17 => if r17 = 0 then (j16 (x11.1, x11.2.1, x11.2.2.1)) else ((mX7_at 36 r4.2.2.2.2 x11.2.2.2).bind fun r18 => jn (fun x19 : Unit => j16 (x11.2.2.2, r14, r5 + r18)) (fun j20 => if x11.1 = (-1 : Int32) then (j20 ()) else (if x11.2.2.1 ≤ (r5 + r18) then (j16 (x11.1, x11.2.1, x11.2.2.1)) else (j20 ())))))))
noncomputable def mX7_bestExit (F : Nat) (v_o1 : MZ) (v_o6 : WY) (g1 : Int32) : Option (Int32 × WY) :=
  jn (fun x1 : Unit => some ((-1 : Int32), v_o6)) (fun j2 => if g1 < 0 then (j2 ()) else (if g1 ≤ (2 : Int32) then ((mX3_entryCell v_o1).bind fun r3 => (mX6_findFrom F v_o6 v_o1 r3).bind fun r4 => (mX3_toneSum F v_o1).bind fun r5 => jn (mX7_bestExit_K131 g1 r4) (fun j7 => lpr (mX7_bestExit_L48 F v_o1 r4 r5 j7) F ((-1 : Int32), (-1 : Int32), (0 : Int32), (0 : Int32)))) else (j2 ())))

noncomputable def mX7_keep (F : Nat) (m_hasSnapshot : Int32) (v_o1 : MZ) (v_o2 : MZ) : Option (Int32 × Int32 × MZ) :=
  (mX3_copyFrom F v_o2 v_o1).bind fun r1 => gd (zb (1 : Int32)) ((mX3_passageCount F v_o1).bind fun r2 => some (r2, (1 : Int32), r1))

noncomputable def mX7_restore (F : Nat) (m_hasSnapshot : Int32) (v_o1 : MZ) (v_o2 : MZ) (v_o3 : HS) : Option (Int32 × MZ × HS) :=
  if m_hasSnapshot = 0 then (some ((-2 : Int32), v_o1, v_o3)) else ((mX2_push F v_o3 v_o1).bind fun r1 => (mX3_copyFrom F v_o1 v_o2).bind fun r2 => (mX3_passageCount F r2).bind fun r3 => some (r3, r2, r1))

noncomputable def mX7_undo (F : Nat) (v_o1 : MZ) (v_o3 : HS) : Option (Int32 × MZ × Int32) :=
  (mX2_pop F v_o3 v_o1).bind fun r1 => if r1.1 = 0 then (some ((-2 : Int32), r1.2.2, r1.2.1)) else (some (r1.2.1, r1.2.2, r1.2.1))

noncomputable def mX7_type (v_o4 : PT) (g1 : Int32) : Option (Int32 × (Int32 × nF)) :=
  jn (fun x1 : Unit => some ((-1 : Int32), (v_o4.1, v_o4.2.2.2.1))) (fun j2 => if g1 < (32 : Int32) then (j2 ()) else (if g1 ≤ (126 : Int32) then (if v_o4.1 < (60 : Int32) then ((mX7_put 60 v_o4.2.2.2.1 v_o4.1 g1).bind fun r3 => some (v_o4.1 + (1 : Int32), (v_o4.1 + (1 : Int32), r3))) else (some ((-3 : Int32), (v_o4.1, v_o4.2.2.2.1)))) else (j2 ())))

noncomputable def mX7_clearText (v_o4 : PT) : Option (Int32 × Int32) :=
  some (v_o4.1, (0 : Int32))

noncomputable def mX4_blame (v_t : PT) (g1 : Int32) (g2 : Int32) : Option (Int32 × Int32) :=
  some (g1, g2)

noncomputable def mX4_lookAtDigit (v_t : PT) (g1 : Int32) : Option (Int32 × Int32 × Int32 × Int32) :=
  jn (fun x1 : (Int32 × Int32 × Int32 × Int32) => some (x1.1, x1.2.1, x1.2.2.1, x1.2.2.2)) (fun j2 => jn (fun x3 : Unit => jn (fun x5 : Unit => j2 (v_t.2.1, v_t.2.2.1, (if v_t.2.2.2.2.1 < (v_t.2.2.2.2.2.2 + (1 : Int32)) then (v_t.2.2.2.2.2.2 + (1 : Int32)) else v_t.2.2.2.2.1), v_t.2.2.2.2.2.2 + (1 : Int32))) (fun j6 => if v_t.2.2.2.2.2.1 ≤ (1 : Int32) then (j6 ()) else (if v_t.2.2.2.2.2.2 = v_t.2.2.2.2.1 then ((mX4_blame v_t g1 (1 : Int32)).bind fun r7 => j2 (r7.1, r7.2, v_t.2.2.2.2.1, v_t.2.2.2.2.2.2)) else (j6 ())))) (fun j4 => if v_t.2.2.2.2.2.1 = (1 : Int32) then (if v_t.2.2.2.2.2.2 = (6 : Int32) then ((mX4_blame v_t g1 (2 : Int32)).bind fun r8 => j2 (r8.1, r8.2, v_t.2.2.2.2.1, v_t.2.2.2.2.2.2)) else (j4 ())) else (j4 ())))

noncomputable def mX4_isRowFull (v_t : PT) : Option Int32 :=
  jn (fun x1 : Int32 => gd (zb x1) (some x1)) (fun j2 => jn (fun x3 : Unit => j2 (0 : Int32)) (fun j4 => if v_t.2.2.2.2.2.2 ≤ 0 then (j4 ()) else (if v_t.2.2.2.2.2.2 = v_t.2.2.2.2.1 then (j2 (1 : Int32)) else (j4 ()))))

noncomputable def mX4_lookAtSlash (v_t : PT) (g1 : Int32) : Option (Int32 × Int32 × Int32 × Int32) :=
  (mX4_isRowFull v_t).bind fun r1 => jn (fun x2 : (Int32 × Int32 × Int32 × Int32) => some (x2.1, x2.2.1, x2.2.2.1, x2.2.2.2)) (fun j3 => if r1 = 0 then ((mX4_blame v_t g1 (1 : Int32)).bind fun r5 => j3 (r5.1, r5.2, v_t.2.2.2.2.2.1, v_t.2.2.2.2.2.2)) else (if v_t.2.2.2.2.2.1 = (6 : Int32) then ((mX4_blame v_t g1 (3 : Int32)).bind fun r4 => j3 (r4.1, r4.2, v_t.2.2.2.2.2.1, v_t.2.2.2.2.2.2)) else (j3 (v_t.2.1, v_t.2.2.1, v_t.2.2.2.2.2.1 + (1 : Int32), (0 : Int32)))))

noncomputable def mX4_lookAtEnd (v_t : PT) : Option (Int32 × Int32) :=
  (mX4_isRowFull v_t).bind fun r1 => jn (fun x2 : (Int32 × Int32) => some (x2.1, x2.2)) (fun j3 => if r1 = 0 then ((mX4_blame v_t v_t.1 (1 : Int32)).bind fun r7 => j3 (r7.1, r7.2)) else (jn (fun x4 : Unit => (mX4_blame v_t v_t.1 (4 : Int32)).bind fun r6 => j3 (r6.1, r6.2)) (fun j5 => if v_t.2.2.2.2.1 = (1 : Int32) then (j5 ()) else (if v_t.2.2.2.2.2.1 = (1 : Int32) then (j5 ()) else (j3 (v_t.2.1, v_t.2.2.1))))))

noncomputable def mX4_look_K97 (v_t : PT) (x1 : (Int32 × Int32 × Int32 × Int32 × Int32)) : Option (Int32 × Int32 × Int32 × Int32 × Int32) :=
  jn (fun x3 : (Int32 × Int32) => some (x3.1, x3.2, x1.2.2.1, x1.2.2.2.1, x1.2.2.2.2)) (fun j4 => if x1.2.1 = 0 then ((mX4_lookAtEnd (v_t.1, x1.1, x1.2.1, v_t.2.2.2.1, x1.2.2.1, x1.2.2.2.1, x1.2.2.2.2)).bind fun r5 => j4 (r5.1, r5.2)) else (j4 (x1.1, x1.2.1)))
noncomputable def mX4_look_L27 (v_t : PT) (j2 : (Int32 × Int32 × Int32 × Int32 × Int32) → Option (Int32 × Int32 × Int32 × Int32 × Int32)) (self7 : (Int32 × Int32 × Int32 × Int32 × Int32 × Int32) → Option (Int32 × Int32 × Int32 × Int32 × Int32)) (x6 : (Int32 × Int32 × Int32 × Int32 × Int32 × Int32)) : Option (Int32 × Int32 × Int32 × Int32 × Int32) :=
  if v_t.1 ≤ x6.1 then (j2 (x6.2.1, x6.2.2.1, x6.2.2.2.1, x6.2.2.2.2.1, x6.2.2.2.2.2)) else (if x6.2.2.1 = 0 then ((mX7_at 60 v_t.2.2.2.1 x6.1).bind fun r8 => jn (fun x9 : (Int32 × Int32 × Int32 × Int32 × Int32) => self7 (x6.1 + (1 : Int32), x9.1, x9.2.1, x9.2.2.1, x9.2.2.2.1, x9.2.2.2.2)) (fun j10 => jn (fun x11 : Unit => if r8 = (47 : Int32) then ((mX4_lookAtSlash (v_t.1, x6.2.1, x6.2.2.1, v_t.2.2.2.1, x6.2.2.2.1, x6.2.2.2.2.1, x6.2.2.2.2.2) x6.1).bind fun r14 => j10 (r14.1, r14.2.1, x6.2.2.2.1, r14.2.2.1, r14.2.2.2)) else ((mX4_blame (v_t.1, x6.2.1, x6.2.2.1, v_t.2.2.2.1, x6.2.2.2.1, x6.2.2.2.2.1, x6.2.2.2.2.2) x6.1 (1 : Int32)).bind fun r13 => j10 (r13.1, r13.2, x6.2.2.2.1, x6.2.2.2.2.1, x6.2.2.2.2.2))) (fun j12 => if r8 < (48 : Int32) then (j12 ()) else (if (57 : Int32) < r8 then (j12 ()) else ((mX4_lookAtDigit (v_t.1, x6.2.1, x6.2.2.1, v_t.2.2.2.1, x6.2.2.2.1, x6.2.2.2.2.1, x6.2.2.2.2.2) x6.1).bind fun r15 => j10 (r15.1, r15.2.1, r15.2.2.1, x6.2.2.2.2.1, r15.2.2.2)))))) else (j2 (x6.2.1, x6.2.2.1, x6.2.2.2.1, x6.2.2.2.2.1, x6.2.2.2.2.2)))
noncomputable def mX4_look (F : Nat) (v_t : PT) : Option (Int32 × Int32 × Int32 × Int32 × Int32) :=
  jn (mX4_look_K97 v_t) (fun j2 => lpr (mX4_look_L27 v_t j2) F ((0 : Int32), (0 : Int32), (0 : Int32), (0 : Int32), (1 : Int32), (0 : Int32)))

noncomputable def mX7_fault (F : Nat) (v_o4 : PT) (g1 : Int32) : Option (Int32 × (Int32 × Int32 × Int32 × Int32 × Int32)) :=
  jn (fun x1 : Unit => some ((-1 : Int32), (v_o4.2.1, v_o4.2.2.1, v_o4.2.2.2.2.1, v_o4.2.2.2.2.2.1, v_o4.2.2.2.2.2.2))) (fun j2 => if g1 < 0 then (j2 ()) else (if g1 ≤ (1 : Int32) then ((mX4_look F v_o4).bind fun r3 => if r3.2.1 = 0 then (some ((-4 : Int32), (r3.1, r3.2.1, r3.2.2.1, r3.2.2.2.1, r3.2.2.2.2))) else (jn (fun x4 : Int32 => some (x4, (r3.1, r3.2.1, r3.2.2.1, r3.2.2.2.1, r3.2.2.2.2))) (fun j5 => if g1 = 0 then (j5 r3.1) else (j5 r3.2.1)))) else (j2 ())))

noncomputable def mX4_paint_L16 (v_t : PT) (r1 : MZ) (self3 : (Int32 × Int32 × nF) → Option MZ) (x2 : (Int32 × Int32 × nF)) : Option MZ :=
  if v_t.1 ≤ x2.2.1 then (some (r1.1, r1.2.1, x2.2.2, r1.2.2.2.1, r1.2.2.2.2.1, r1.2.2.2.2.2)) else ((mX7_at 60 v_t.2.2.2.1 x2.2.1).bind fun r4 => jn (fun x5 : (Int32 × nF) => self3 (x5.1, x2.2.1 + (1 : Int32), x5.2)) (fun j6 => if r4 = (47 : Int32) then (j6 (x2.1, x2.2.2)) else ((mX7_put 36 x2.2.2 x2.1 (r4 - (48 : Int32))).bind fun r7 => j6 (x2.1 + (1 : Int32), r7))))
noncomputable def mX4_paint (F : Nat) (v_t : PT) (v_p1 : MZ) : Option MZ :=
  (mX3_clear F v_p1 v_t.2.2.2.2.1 v_t.2.2.2.2.2.1).bind fun r1 => lpr (mX4_paint_L16 v_t r1) F ((0 : Int32), (0 : Int32), r1.2.2.1)

noncomputable def mX7_read (F : Nat) (v_o1 : MZ) (v_o3 : HS) (v_o4 : PT) : Option (Int32 × MZ × HS × (Int32 × Int32 × Int32 × Int32 × Int32)) :=
  (mX4_look F v_o4).bind fun r1 => if r1.2.1 = 0 then ((mX2_push F v_o3 v_o1).bind fun r2 => (mX4_paint F (v_o4.1, r1.1, r1.2.1, v_o4.2.2.2.1, r1.2.2.1, r1.2.2.2.1, r1.2.2.2.2) v_o1).bind fun r3 => (mX3_cells r3).bind fun r4 => some (r4, r3, r2, (r1.1, r1.2.1, r1.2.2.1, r1.2.2.2.1, r1.2.2.2.2))) else (some ((-2 : Int32), v_o1, v_o3, (r1.1, r1.2.1, r1.2.2.1, r1.2.2.2.1, r1.2.2.2.2)))

noncomputable def mX8_lightens_K21 (g1 : Int32) (g2 : Int32) (x1 : nF) : Option nF :=
  gd (inb (0 : Int32) 114) (gd (inb (1 : Int32) 114) (gd (inb (3 : Int32) 114) (gd (inb (4 : Int32) 114) (gd (inb (5 : Int32) 114) (some (upd (upd (upd (upd (upd x1 (0 : Int32).toNatClampNeg g1) (1 : Int32).toNatClampNeg g2) (3 : Int32).toNatClampNeg (3 : Int32)) (4 : Int32).toNatClampNeg ((g1 * g2) - (1 : Int32))) (5 : Int32).toNatClampNeg (1 : Int32)))))))
noncomputable def mX8_lightens_L2 (j2 : nF → Option nF) (self4 : (Int32 × nF) → Option nF) (x3 : (Int32 × nF)) : Option nF :=
  if (114 : Int32) ≤ x3.1 then (j2 x3.2) else (gd (inb x3.1 114) (self4 (x3.1 + (1 : Int32), (upd x3.2 x3.1.toNatClampNeg (0 : Int32)))))
noncomputable def mX8_lightens (F : Nat) (m_s : nF) (g1 : Int32) (g2 : Int32) : Option nF :=
  jn (mX8_lightens_K21 g1 g2) (fun j2 => lpr (mX8_lightens_L2 j2) F ((0 : Int32), m_s))

noncomputable def mX8_in (g0 : Int32) (g1 : Int32) (g2 : Int32) : Option Int32 :=
  jn (fun x1 : Int32 => gd (zb x1) (some x1)) (fun j2 => jn (fun x3 : Unit => j2 (0 : Int32)) (fun j4 => if g0 < g1 then (j4 ()) else (if g2 < g0 then (j4 ()) else (j2 (1 : Int32)))))

noncomputable def mX8_begins_L2 (m_s : nF) (self2 : (Int32 × nF) → Option nF) (x1 : (Int32 × nF)) : Option nF :=
  if (114 : Int32) ≤ x1.1 then (some x1.2) else (gd (inb x1.1 114) (gd (inb x1.1 114) (self2 (x1.1 + (1 : Int32), (upd x1.2 x1.1.toNatClampNeg (m_s x1.1.toNatClampNeg))))))
noncomputable def mX8_begins (F : Nat) (m_s : nF) (m_begun : nF) : Option nF :=
  lpr (mX8_begins_L2 m_s) F ((0 : Int32), m_begun)

noncomputable def mX8_acted_L82 (m_s : nF) (m_begun : nF) (g1 : Int32) (x1 : (nF × Int32)) (self4 : (Int32 × nF) → Option (Int32 × nF × nF × Int32)) (x3 : (Int32 × nF)) : Option (Int32 × nF × nF × Int32) :=
  if (114 : Int32) ≤ x3.1 then (some (g1, m_s, x3.2, x1.2 + (1 : Int32))) else (gd (inb x3.1 114) (gd (inb (((114 : Int32) * x1.2) + x3.1) 456) (self4 (x3.1 + (1 : Int32), (upd x3.2 (((114 : Int32) * x1.2) + x3.1).toNatClampNeg (m_begun x3.1.toNatClampNeg))))))
noncomputable def mX8_acted_K70 (m_states : Int32) (j2 : (nF × Int32) → Option (Int32 × nF × nF × Int32)) (x5 : nF) : Option (Int32 × nF × nF × Int32) :=
  j2 (x5, m_states - (1 : Int32))
noncomputable def mX8_acted_L42 (j6 : nF → Option (Int32 × nF × nF × Int32)) (self8 : (Int32 × nF) → Option (Int32 × nF × nF × Int32)) (x7 : (Int32 × nF)) : Option (Int32 × nF × nF × Int32) :=
  if (342 : Int32) ≤ x7.1 then (j6 x7.2) else (gd (inb (x7.1 + (114 : Int32)) 456) (gd (inb x7.1 456) (self8 (x7.1 + (1 : Int32), (upd x7.2 x7.1.toNatClampNeg (x7.2 (x7.1 + (114 : Int32)).toNatClampNeg))))))
noncomputable def mX8_acted_L6 (m_begun : nF) (m_past : nF) (m_states : Int32) (g1 : Int32) (self10 : (Int32 × nF) → Option (Int32 × nF × nF × Int32)) (x9 : (Int32 × nF)) : Option (Int32 × nF × nF × Int32) :=
  if (114 : Int32) ≤ x9.1 then (some (g1, x9.2, m_past, m_states)) else (gd (inb x9.1 114) (gd (inb x9.1 114) (self10 (x9.1 + (1 : Int32), (upd x9.2 x9.1.toNatClampNeg (m_begun x9.1.toNatClampNeg))))))
noncomputable def mX8_acted (F : Nat) (m_s : nF) (m_begun : nF) (m_past : nF) (m_states : Int32) (g1 : Int32) : Option (Int32 × nF × nF × Int32) :=
  if 0 ≤ g1 then (jn (fun x1 : (nF × Int32) => lpr (mX8_acted_L82 m_s m_begun g1 x1) F ((0 : Int32), x1.1)) (fun j2 => if m_states = (4 : Int32) then (jn (mX8_acted_K70 m_states j2) (fun j6 => lpr (mX8_acted_L42 j6) F ((0 : Int32), m_past))) else (j2 (m_past, m_states)))) else (lpr (mX8_acted_L6 m_begun m_past m_states g1) F ((0 : Int32), m_s))

noncomputable def mX8_cells (m_s : nF) : Option Int32 :=
  gd (inb (0 : Int32) 114) (gd (inb (1 : Int32) 114) (some ((m_s (0 : Int32).toNatClampNeg) * (m_s (1 : Int32).toNatClampNeg))))

noncomputable def mX8_isCell (m_s : nF) (g1 : Int32) : Option Int32 :=
  (mX8_cells m_s).bind fun r1 => (mX8_in g1 (0 : Int32) (r1 - (1 : Int32))).bind fun r2 => gd (zb r2) (some r2)

noncomputable def mX8_besides (m_s : nF) (g1 : Int32) (g2 : Int32) : Option Int32 :=
  gd (inb (0 : Int32) 114) (gd (nz (m_s (0 : Int32).toNatClampNeg)) (gd (inb (0 : Int32) 114) (gd (nz (m_s (0 : Int32).toNatClampNeg)) (if g2 = (0 : Int32) then (jn (fun x2 : Int32 => some x2) (fun j3 => if (g1 / (m_s (0 : Int32).toNatClampNeg)) ≤ 0 then (j3 (-1 : Int32)) else (gd (inb (0 : Int32) 114) (j3 (g1 - (m_s (0 : Int32).toNatClampNeg)))))) else if g2 = (1 : Int32) then (gd (inb (0 : Int32) 114) (jn (fun x5 : Int32 => some x5) (fun j6 => if (m_s (0 : Int32).toNatClampNeg) ≤ ((g1 - g1 / (m_s (0 : Int32).toNatClampNeg) * (m_s (0 : Int32).toNatClampNeg)) + (1 : Int32)) then (j6 (-1 : Int32)) else (j6 (g1 + (1 : Int32)))))) else if g2 = (2 : Int32) then (gd (inb (1 : Int32) 114) (jn (fun x8 : Int32 => some x8) (fun j9 => if (m_s (1 : Int32).toNatClampNeg) ≤ ((g1 / (m_s (0 : Int32).toNatClampNeg)) + (1 : Int32)) then (j9 (-1 : Int32)) else (gd (inb (0 : Int32) 114) (j9 (g1 + (m_s (0 : Int32).toNatClampNeg))))))) else (jn (fun x10 : Int32 => some x10) (fun j11 => if (g1 - g1 / (m_s (0 : Int32).toNatClampNeg) * (m_s (0 : Int32).toNatClampNeg)) ≤ 0 then (j11 (-1 : Int32)) else (j11 (g1 - (1 : Int32)))))))))

noncomputable def mX8_numberOf (m_s : nF) (g1 : Int32) (g2 : Int32) : Option Int32 :=
  (mX8_besides m_s g1 g2).bind fun r1 => jn (fun x2 : Int32 => gd (nz (2 : Int32)) (jn (fun x4 : Int32 => some (((2 : Int32) * x2) + x4)) (fun j5 => if (g2 - g2 / (2 : Int32) * (2 : Int32)) = 0 then (j5 (1 : Int32)) else (j5 (0 : Int32))))) (fun j3 => jn (fun x6 : Unit => j3 g1) (fun j7 => if g2 = (1 : Int32) then (j7 ()) else (if g2 = (2 : Int32) then (j7 ()) else (j3 r1))))

noncomputable def mX8_isOpen (m_s : nF) (g1 : Int32) (g2 : Int32) : Option Int32 :=
  (mX8_besides m_s g1 g2).bind fun r1 => jn (fun x2 : Int32 => gd (zb x2) (some x2)) (fun j3 => jn (fun x4 : Unit => j3 (0 : Int32)) (fun j5 => if r1 < 0 then (j5 ()) else ((mX8_numberOf m_s g1 g2).bind fun r6 => gd (inb ((42 : Int32) + r6) 114) (if (m_s ((42 : Int32) + r6).toNatClampNeg) = (1 : Int32) then (j3 (1 : Int32)) else (j5 ())))))

noncomputable def mX8_second (m_s : nF) (g1 : Int32) : Option Int32 :=
  gd (nz (2 : Int32)) (gd (nz (2 : Int32)) (jn (fun x1 : Int32 => (mX8_besides m_s (g1 / (2 : Int32)) x1).bind fun r3 => some r3) (fun j2 => if (g1 - g1 / (2 : Int32) * (2 : Int32)) = 0 then (j2 (1 : Int32)) else (j2 (2 : Int32)))))

noncomputable def mX8_measures_K136 (self4 : (Int32 × Int32 × nF × nF) → Option (nF × nF)) (x3 : (Int32 × Int32 × nF × nF)) (x5 : (Int32 × nF × nF)) : Option (nF × nF) :=
  self4 (x5.1, x3.2.1 + (1 : Int32), x5.2.1, x5.2.2)
noncomputable def mX8_measures_L57 (m_s : nF) (x3 : (Int32 × Int32 × nF × nF)) (j6 : (Int32 × nF × nF) → Option (nF × nF)) (self8 : (Int32 × Int32 × nF × nF) → Option (nF × nF)) (x7 : (Int32 × Int32 × nF × nF)) : Option (nF × nF) :=
  if (4 : Int32) ≤ x7.2.1 then (j6 (x7.1, x7.2.2.1, x7.2.2.2)) else ((mX8_isOpen m_s (x3.2.2.2 x3.2.1.toNatClampNeg) x7.2.1).bind fun r9 => jn (fun x10 : Int32 => jn (fun x12 : (Int32 × nF × nF) => self8 (x12.1, x7.2.1 + (1 : Int32), x12.2.1, x12.2.2)) (fun j13 => if x10 < 0 then (j13 (x7.1, x7.2.2.1, x7.2.2.2)) else (gd (inb x10 36) (if 0 ≤ (x7.2.2.1 x10.toNatClampNeg) then (j13 (x7.1, x7.2.2.1, x7.2.2.2)) else (gd (inb (x3.2.2.2 x3.2.1.toNatClampNeg) 36) (gd (inb x10 36) (gd (inb x7.1 36) (j13 (x7.1 + (1 : Int32), (upd x7.2.2.1 x10.toNatClampNeg ((x7.2.2.1 (x3.2.2.2 x3.2.1.toNatClampNeg).toNatClampNeg) + (1 : Int32))), (upd x7.2.2.2 x7.1.toNatClampNeg x10)))))))))) (fun j11 => if r9 = 0 then (j11 (-1 : Int32)) else ((mX8_besides m_s (x3.2.2.2 x3.2.1.toNatClampNeg) x7.2.1).bind fun r14 => j11 r14)))
noncomputable def mX8_measures_L41 (F : Nat) (m_s : nF) (self4 : (Int32 × Int32 × nF × nF) → Option (nF × nF)) (x3 : (Int32 × Int32 × nF × nF)) : Option (nF × nF) :=
  if x3.1 ≤ x3.2.1 then (some (x3.2.2.1, x3.2.2.2)) else (gd (inb x3.2.1 36) (jn (mX8_measures_K136 self4 x3) (fun j6 => lpr (mX8_measures_L57 m_s x3 j6) F (x3.1, (0 : Int32), x3.2.2.1, x3.2.2.2))))
noncomputable def mX8_measures_K23 (F : Nat) (m_s : nF) (m_queue : nF) (g1 : Int32) (x1 : nF) : Option (nF × nF) :=
  gd (inb g1 36) (gd (inb (0 : Int32) 36) (lpr (mX8_measures_L41 F m_s) F ((1 : Int32), (0 : Int32), (upd x1 g1.toNatClampNeg (0 : Int32)), (upd m_queue (0 : Int32).toNatClampNeg g1))))
noncomputable def mX8_measures_L2 (m_s : nF) (j2 : nF → Option (nF × nF)) (self16 : (Int32 × nF) → Option (nF × nF)) (x15 : (Int32 × nF)) : Option (nF × nF) :=
  (mX8_cells m_s).bind fun r17 => if r17 ≤ x15.1 then (j2 x15.2) else (gd (inb x15.1 36) (self16 (x15.1 + (1 : Int32), (upd x15.2 x15.1.toNatClampNeg (-1 : Int32)))))
noncomputable def mX8_measures (F : Nat) (m_s : nF) (m_far : nF) (m_queue : nF) (g1 : Int32) : Option (nF × nF) :=
  jn (mX8_measures_K23 F m_s m_queue g1) (fun j2 => lpr (mX8_measures_L2 m_s j2) F ((0 : Int32), m_far))

noncomputable def mX8_areJoined (F : Nat) (m_s : nF) (m_far : nF) (m_queue : nF) (g1 : Int32) (g2 : Int32) : Option (Int32 × nF × nF) :=
  (mX8_measures F m_s m_far m_queue g1).bind fun r1 => gd (inb g2 36) (jn (fun x2 : Int32 => gd (zb x2) (some (x2, r1.1, r1.2))) (fun j3 => if (r1.1 g2.toNatClampNeg) < 0 then (j3 (0 : Int32)) else (j3 (1 : Int32))))

noncomputable def mX8_passages_L4 (m_s : nF) (self2 : (Int32 × Int32) → Option Int32) (x1 : (Int32 × Int32)) : Option Int32 :=
  (mX8_cells m_s).bind fun r3 => if ((2 : Int32) * r3) ≤ x1.2 then (some x1.1) else (gd (inb ((42 : Int32) + x1.2) 114) (self2 (x1.1 + (m_s ((42 : Int32) + x1.2).toNatClampNeg), x1.2 + (1 : Int32))))
noncomputable def mX8_passages (F : Nat) (m_s : nF) : Option Int32 :=
  lpr (mX8_passages_L4 m_s) F ((0 : Int32), (0 : Int32))

noncomputable def mX8_parts (F : Nat) (m_s : nF) : Option Int32 :=
  (mX8_cells m_s).bind fun r1 => (mX8_passages F m_s).bind fun r2 => some (r1 - r2)

noncomputable def mX8_isWhole (F : Nat) (m_s : nF) : Option Int32 :=
  (mX8_parts F m_s).bind fun r1 => jn (fun x2 : Int32 => gd (zb x2) (some x2)) (fun j3 => if r1 = (1 : Int32) then (j3 (1 : Int32)) else (j3 (0 : Int32)))

noncomputable def mX8_findsWay_K146 (m_s : nF) (self5 : (Int32 × Int32 × nF × nF × Int32 × Int32) → Option (Int32 × nF × nF × nF × nF × Int32 × Int32)) (x4 : (Int32 × Int32 × nF × nF × Int32 × Int32)) (x6 : Int32) : Option (Int32 × nF × nF × nF × nF × Int32 × Int32) :=
  jn (fun x8 : Int32 => (mX8_besides m_s x4.1 x6).bind fun r10 => gd (inb r10 36) (gd (inb x4.2.2.2.2.1 36) (self5 (r10, x6, (upd x4.2.2.1 r10.toNatClampNeg (vp_nar .boolean (1 : Int32))), (upd x4.2.2.2.1 x4.2.2.2.2.1.toNatClampNeg r10), x4.2.2.2.2.1 + (1 : Int32), x4.2.2.2.2.2 + x8)))) (fun j9 => jn (fun x11 : Unit => j9 (0 : Int32)) (fun j12 => if x4.2.1 < 0 then (j12 ()) else (if x6 = x4.2.1 then (j12 ()) else (j9 (1 : Int32)))))
noncomputable def mX8_findsWay_L92 (m_s : nF) (r3 : (nF × nF)) (x4 : (Int32 × Int32 × nF × nF × Int32 × Int32)) (j7 : Int32 → Option (Int32 × nF × nF × nF × nF × Int32 × Int32)) (self14 : (Int32 × Int32) → Option (Int32 × nF × nF × nF × nF × Int32 × Int32)) (x13 : (Int32 × Int32)) : Option (Int32 × nF × nF × nF × nF × Int32 × Int32) :=
  if (4 : Int32) ≤ x13.2 then (j7 x13.1) else ((mX8_isOpen m_s x4.1 x13.2).bind fun r15 => jn (fun x16 : Int32 => self14 (x16, x13.2 + (1 : Int32))) (fun j17 => jn (fun x18 : Unit => j17 x13.1) (fun j19 => if r15 = 0 then (j19 ()) else ((mX8_besides m_s x4.1 x13.2).bind fun r20 => gd (inb r20 36) (gd (inb x4.1 36) (if (r3.1 r20.toNatClampNeg) = ((r3.1 x4.1.toNatClampNeg) - (1 : Int32)) then (j17 x13.2) else (j19 ())))))))
noncomputable def mX8_findsWay_L77 (F : Nat) (m_s : nF) (r3 : (nF × nF)) (self5 : (Int32 × Int32 × nF × nF × Int32 × Int32) → Option (Int32 × nF × nF × nF × nF × Int32 × Int32)) (x4 : (Int32 × Int32 × nF × nF × Int32 × Int32)) : Option (Int32 × nF × nF × nF × nF × Int32 × Int32) :=
  gd (inb x4.1 36) (if (r3.1 x4.1.toNatClampNeg) ≤ 0 then (gd (zb (1 : Int32)) (some ((1 : Int32), r3.1, r3.2, x4.2.2.1, x4.2.2.2.1, x4.2.2.2.2.1, x4.2.2.2.2.2))) else (jn (mX8_findsWay_K146 m_s self5 x4) (fun j7 => lpr (mX8_findsWay_L92 m_s r3 x4 j7) F ((-1 : Int32), (0 : Int32)))))
noncomputable def mX8_findsWay_K23 (F : Nat) (m_s : nF) (m_far : nF) (m_queue : nF) (m_steps : nF) (g1 : Int32) (x1 : nF) : Option (Int32 × nF × nF × nF × nF × Int32 × Int32) :=
  (mX8_measures F m_s m_far m_queue g1).bind fun r3 => gd (inb (2 : Int32) 114) (gd (inb (m_s (2 : Int32).toNatClampNeg) 36) (if 0 ≤ (r3.1 (m_s (2 : Int32).toNatClampNeg).toNatClampNeg) then (gd (inb (m_s (2 : Int32).toNatClampNeg) 36) (gd (inb (0 : Int32) 36) (lpr (mX8_findsWay_L77 F m_s r3) F (m_s (2 : Int32).toNatClampNeg, (-1 : Int32), (upd x1 (m_s (2 : Int32).toNatClampNeg).toNatClampNeg (vp_nar .boolean (1 : Int32))), (upd m_steps (0 : Int32).toNatClampNeg (m_s (2 : Int32).toNatClampNeg)), (1 : Int32), (0 : Int32))))) else (gd (zb (0 : Int32)) (some ((0 : Int32), r3.1, r3.2, x1, m_steps, (0 : Int32), (0 : Int32))))))
noncomputable def mX8_findsWay_L2 (m_s : nF) (j2 : nF → Option (Int32 × nF × nF × nF × nF × Int32 × Int32)) (self22 : (Int32 × nF) → Option (Int32 × nF × nF × nF × nF × Int32 × Int32)) (x21 : (Int32 × nF)) : Option (Int32 × nF × nF × nF × nF × Int32 × Int32) :=
  (mX8_cells m_s).bind fun r23 => if r23 ≤ x21.1 then (j2 x21.2) else (gd (inb x21.1 36) (self22 (x21.1 + (1 : Int32), (upd x21.2 x21.1.toNatClampNeg (vp_nar .boolean (0 : Int32))))))
noncomputable def mX8_findsWay (F : Nat) (m_s : nF) (m_far : nF) (m_queue : nF) (m_isOn : nF) (m_steps : nF) (m_wayCells : Int32) (m_turns : Int32) (g1 : Int32) : Option (Int32 × nF × nF × nF × nF × Int32 × Int32) :=
  jn (mX8_findsWay_K23 F m_s m_far m_queue m_steps g1) (fun j2 => lpr (mX8_findsWay_L2 m_s j2) F ((0 : Int32), m_isOn))

noncomputable def mX8_faultTo_L11 (m_s : nF) (r1 : (Int32 × nF × nF × nF × nF × Int32 × Int32)) (self3 : (Int32 × Int32) → Option (Int32 × nF × nF × nF × nF × Int32 × Int32)) (x2 : (Int32 × Int32)) : Option (Int32 × nF × nF × nF × nF × Int32 × Int32) :=
  (mX8_cells m_s).bind fun r4 => if r4 ≤ x2.2 then (some (x2.1, r1.2.1, r1.2.2.1, r1.2.2.2.1, r1.2.2.2.2.1, r1.2.2.2.2.2.1, r1.2.2.2.2.2.2)) else (gd (inb x2.2 36) (jn (fun x5 : Int32 => self3 (x2.1 + x5, x2.2 + (1 : Int32))) (fun j6 => if (r1.2.2.2.1 x2.2.toNatClampNeg) = 0 then (gd (inb ((6 : Int32) + x2.2) 114) (j6 (m_s ((6 : Int32) + x2.2).toNatClampNeg))) else (gd (inb ((6 : Int32) + x2.2) 114) (j6 ((9 : Int32) - (m_s ((6 : Int32) + x2.2).toNatClampNeg)))))))
noncomputable def mX8_faultTo (F : Nat) (m_s : nF) (m_far : nF) (m_queue : nF) (m_isOn : nF) (m_steps : nF) (m_wayCells : Int32) (m_turns : Int32) (g1 : Int32) : Option (Int32 × nF × nF × nF × nF × Int32 × Int32) :=
  (mX8_findsWay F m_s m_far m_queue m_isOn m_steps m_wayCells m_turns g1).bind fun r1 => lpr (mX8_faultTo_L11 m_s r1) F ((0 : Int32), (0 : Int32))

noncomputable def mX8_wayFault (F : Nat) (m_s : nF) (m_far : nF) (m_queue : nF) (m_isOn : nF) (m_steps : nF) (m_wayCells : Int32) (m_turns : Int32) : Option (Int32 × nF × nF × nF × nF × Int32 × Int32) :=
  gd (inb (4 : Int32) 114) ((mX8_faultTo F m_s m_far m_queue m_isOn m_steps m_wayCells m_turns (m_s (4 : Int32).toNatClampNeg)).bind fun r1 => some (r1.1, r1.2.1, r1.2.2.1, r1.2.2.2.1, r1.2.2.2.2.1, r1.2.2.2.2.2.1, r1.2.2.2.2.2.2))

noncomputable def mX8_walks_K200 (m_s : nF) (self6 : (Int32 × Int32 × nF × nF) → Option (Int32 × nF × nF)) (x5 : (Int32 × Int32 × nF × nF)) (x7 : Int32) : Option (Int32 × nF × nF) :=
  if 0 ≤ x7 then ((mX8_besides m_s x5.1 x7).bind fun r9 => self6 (r9, x7, (upd x5.2.2.1 x5.1.toNatClampNeg ((x5.2.2.1 x5.1.toNatClampNeg) + (1 : Int32))), (upd x5.2.2.2 (((4 : Int32) * x5.1) + x5.2.1).toNatClampNeg (vp_nar .boolean (1 : Int32))))) else (gd (zb (0 : Int32)) (some ((0 : Int32), (upd x5.2.2.1 x5.1.toNatClampNeg ((x5.2.2.1 x5.1.toNatClampNeg) + (1 : Int32))), (upd x5.2.2.2 (((4 : Int32) * x5.1) + x5.2.1).toNatClampNeg (vp_nar .boolean (1 : Int32))))))
noncomputable def mX8_walks_L100 (m_s : nF) (x5 : (Int32 × Int32 × nF × nF)) (j8 : Int32 → Option (Int32 × nF × nF)) (self11 : (Int32 × Int32) → Option (Int32 × nF × nF)) (x10 : (Int32 × Int32)) : Option (Int32 × nF × nF) :=
  if (4 : Int32) ≤ x10.2 then (j8 x10.1) else (if 0 ≤ x10.1 then (j8 x10.1) else (jn (fun x12 : Int32 => gd (inb (4 : Int32) 114) (jn (fun x14 : Unit => (mX8_isOpen m_s x5.1 x12).bind fun r16 => jn (fun x17 : Int32 => self11 (x17, x10.2 + (1 : Int32))) (fun j18 => if r16 = 0 then (j18 (-1 : Int32)) else (j18 x12))) (fun j15 => if x5.1 = (m_s (4 : Int32).toNatClampNeg) then (gd (inb (5 : Int32) 114) (if x12 = (m_s (5 : Int32).toNatClampNeg) then (gd (zb (1 : Int32)) (some ((1 : Int32), (upd x5.2.2.1 x5.1.toNatClampNeg ((x5.2.2.1 x5.1.toNatClampNeg) + (1 : Int32))), (upd x5.2.2.2 (((4 : Int32) * x5.1) + x5.2.1).toNatClampNeg (vp_nar .boolean (1 : Int32)))))) else (j15 ()))) else (j15 ())))) (fun j13 => if x10.2 = 0 then (gd (nz (4 : Int32)) (j13 ((x5.2.1 + (1 : Int32)) - (x5.2.1 + (1 : Int32)) / (4 : Int32) * (4 : Int32)))) else (if x10.2 = (1 : Int32) then (j13 x5.2.1) else (if x10.2 = (2 : Int32) then (gd (nz (4 : Int32)) (j13 ((x5.2.1 + (3 : Int32)) - (x5.2.1 + (3 : Int32)) / (4 : Int32) * (4 : Int32)))) else (gd (nz (4 : Int32)) (j13 ((x5.2.1 + (2 : Int32)) - (x5.2.1 + (2 : Int32)) / (4 : Int32) * (4 : Int32)))))))))
noncomputable def mX8_walks_L61 (F : Nat) (m_s : nF) (self6 : (Int32 × Int32 × nF × nF) → Option (Int32 × nF × nF)) (x5 : (Int32 × Int32 × nF × nF)) : Option (Int32 × nF × nF) :=
  gd (inb (((4 : Int32) * x5.1) + x5.2.1) 144) (if (x5.2.2.2 (((4 : Int32) * x5.1) + x5.2.1).toNatClampNeg) = 0 then (gd (inb (((4 : Int32) * x5.1) + x5.2.1) 144) (gd (inb x5.1 36) (gd (inb x5.1 36) (jn (mX8_walks_K200 m_s self6 x5) (fun j8 => lpr (mX8_walks_L100 m_s x5 j8) F ((-1 : Int32), (0 : Int32))))))) else (gd (zb (0 : Int32)) (some ((0 : Int32), x5.2.2.1, x5.2.2.2))))
noncomputable def mX8_walks_K43 (F : Nat) (m_s : nF) (x1 : nF) (x3 : nF) : Option (Int32 × nF × nF) :=
  gd (inb (2 : Int32) 114) (gd (inb (3 : Int32) 114) (gd (nz (4 : Int32)) (lpr (mX8_walks_L61 F m_s) F (m_s (2 : Int32).toNatClampNeg, ((m_s (3 : Int32).toNatClampNeg) + (2 : Int32)) - ((m_s (3 : Int32).toNatClampNeg) + (2 : Int32)) / (4 : Int32) * (4 : Int32), x1, x3))))
noncomputable def mX8_walks_L23 (j4 : nF → Option (Int32 × nF × nF)) (self20 : (Int32 × nF) → Option (Int32 × nF × nF)) (x19 : (Int32 × nF)) : Option (Int32 × nF × nF) :=
  if (144 : Int32) ≤ x19.1 then (j4 x19.2) else (gd (inb x19.1 144) (self20 (x19.1 + (1 : Int32), (upd x19.2 x19.1.toNatClampNeg (vp_nar .boolean (0 : Int32))))))
noncomputable def mX8_walks_K21 (F : Nat) (m_s : nF) (m_wasSo : nF) (x1 : nF) : Option (Int32 × nF × nF) :=
  jn (mX8_walks_K43 F m_s x1) (fun j4 => lpr (mX8_walks_L23 j4) F ((0 : Int32), m_wasSo))
noncomputable def mX8_walks_L2 (j2 : nF → Option (Int32 × nF × nF)) (self22 : (Int32 × nF) → Option (Int32 × nF × nF)) (x21 : (Int32 × nF)) : Option (Int32 × nF × nF) :=
  if (36 : Int32) ≤ x21.1 then (j2 x21.2) else (gd (inb x21.1 36) (self22 (x21.1 + (1 : Int32), (upd x21.2 x21.1.toNatClampNeg (0 : Int32)))))
noncomputable def mX8_walks (F : Nat) (m_s : nF) (m_visits : nF) (m_wasSo : nF) : Option (Int32 × nF × nF) :=
  jn (mX8_walks_K21 F m_s m_wasSo) (fun j2 => lpr (mX8_walks_L2 j2) F ((0 : Int32), m_visits))

noncomputable def mX8_walkCells_L4 (m_s : nF) (m_visits : nF) (self2 : (Int32 × Int32) → Option Int32) (x1 : (Int32 × Int32)) : Option Int32 :=
  (mX8_cells m_s).bind fun r3 => if r3 ≤ x1.2 then (some x1.1) else (gd (inb x1.2 36) (self2 (x1.1 + (m_visits x1.2.toNatClampNeg), x1.2 + (1 : Int32))))
noncomputable def mX8_walkCells (F : Nat) (m_s : nF) (m_visits : nF) : Option Int32 :=
  lpr (mX8_walkCells_L4 m_s m_visits) F ((0 : Int32), (0 : Int32))

noncomputable def mX8_walkFault_L4 (m_s : nF) (m_visits : nF) (self2 : (Int32 × Int32) → Option Int32) (x1 : (Int32 × Int32)) : Option Int32 :=
  (mX8_cells m_s).bind fun r3 => if r3 ≤ x1.2 then (some x1.1) else (gd (inb x1.2 36) (jn (fun x4 : Int32 => gd (inb ((6 : Int32) + x1.2) 114) (jn (fun x6 : Int32 => self2 (x1.1 + x6, x1.2 + (1 : Int32))) (fun j7 => if x4 ≤ (m_s ((6 : Int32) + x1.2).toNatClampNeg) then (gd (inb ((6 : Int32) + x1.2) 114) (j7 ((m_s ((6 : Int32) + x1.2).toNatClampNeg) - x4))) else (gd (inb ((6 : Int32) + x1.2) 114) (j7 (x4 - (m_s ((6 : Int32) + x1.2).toNatClampNeg))))))) (fun j5 => if ((3 : Int32) * (m_visits x1.2.toNatClampNeg)) ≤ (9 : Int32) then (gd (inb x1.2 36) (j5 ((3 : Int32) * (m_visits x1.2.toNatClampNeg)))) else (j5 (9 : Int32)))))
noncomputable def mX8_walkFault (F : Nat) (m_s : nF) (m_visits : nF) : Option Int32 :=
  lpr (mX8_walkFault_L4 m_s m_visits) F ((0 : Int32), (0 : Int32))

noncomputable def mX8_triesFor_L45 (F : Nat) (g1 : Int32) (x2 : nF) (self5 : (Int32 × nF × nF × nF × nF × nF × Int32 × Int32 × Int32 × Int32 × Int32) → Option (nF × nF × nF × nF × nF × Int32 × Int32 × Int32 × Int32 × Int32 × nF)) (x4 : (Int32 × nF × nF × nF × nF × nF × Int32 × Int32 × Int32 × Int32 × Int32)) : Option (nF × nF × nF × nF × nF × Int32 × Int32 × Int32 × Int32 × Int32 × nF) :=
  (mX8_cells x4.2.1).bind fun r6 => if ((2 : Int32) * r6) ≤ x4.1 then (some (x4.2.1, x4.2.2.1, x4.2.2.2.1, x4.2.2.2.2.1, x4.2.2.2.2.2.1, x4.2.2.2.2.2.2.1, x4.2.2.2.2.2.2.2.1, x4.2.2.2.2.2.2.2.2.1, x4.2.2.2.2.2.2.2.2.2.1, x4.2.2.2.2.2.2.2.2.2.2, x2)) else ((mX8_second x4.2.1 x4.1).bind fun r7 => jn (fun x8 : (nF × nF × nF × nF × nF × Int32 × Int32 × Int32 × Int32 × Int32) => self5 (x4.1 + (1 : Int32), x8.1, x8.2.1, x8.2.2.1, x8.2.2.2.1, x8.2.2.2.2.1, x8.2.2.2.2.2.1, x8.2.2.2.2.2.2.1, x8.2.2.2.2.2.2.2.1, x8.2.2.2.2.2.2.2.2.1, x8.2.2.2.2.2.2.2.2.2)) (fun j9 => if x4.1 = g1 then (j9 (x4.2.1, x4.2.2.1, x4.2.2.2.1, x4.2.2.2.2.1, x4.2.2.2.2.2.1, x4.2.2.2.2.2.2.1, x4.2.2.2.2.2.2.2.1, x4.2.2.2.2.2.2.2.2.1, x4.2.2.2.2.2.2.2.2.2.1, x4.2.2.2.2.2.2.2.2.2.2)) else (if r7 < 0 then (j9 (x4.2.1, x4.2.2.1, x4.2.2.2.1, x4.2.2.2.2.1, x4.2.2.2.2.2.1, x4.2.2.2.2.2.2.1, x4.2.2.2.2.2.2.2.1, x4.2.2.2.2.2.2.2.2.1, x4.2.2.2.2.2.2.2.2.2.1, x4.2.2.2.2.2.2.2.2.2.2)) else (gd (nz (2 : Int32)) (gd (inb (x4.1 / (2 : Int32)) 36) (gd (inb r7 36) (if (x2 (x4.1 / (2 : Int32)).toNatClampNeg) = (x2 r7.toNatClampNeg) then (j9 (x4.2.1, x4.2.2.1, x4.2.2.2.1, x4.2.2.2.2.1, x4.2.2.2.2.2.1, x4.2.2.2.2.2.2.1, x4.2.2.2.2.2.2.2.1, x4.2.2.2.2.2.2.2.2.1, x4.2.2.2.2.2.2.2.2.2.1, x4.2.2.2.2.2.2.2.2.2.2)) else (gd (inb ((42 : Int32) + x4.1) 114) ((mX8_wayFault F (upd x4.2.1 ((42 : Int32) + x4.1).toNatClampNeg (1 : Int32)) x4.2.2.1 x4.2.2.2.1 x4.2.2.2.2.1 x4.2.2.2.2.2.1 x4.2.2.2.2.2.2.1 x4.2.2.2.2.2.2.2.1).bind fun r10 => gd (inb ((42 : Int32) + x4.1) 114) (if x4.2.2.2.2.2.2.2.2.2.2 ≤ r10.1 then (j9 ((upd (upd x4.2.1 ((42 : Int32) + x4.1).toNatClampNeg (1 : Int32)) ((42 : Int32) + x4.1).toNatClampNeg (0 : Int32)), r10.2.1, r10.2.2.1, r10.2.2.2.1, r10.2.2.2.2.1, r10.2.2.2.2.2.1, r10.2.2.2.2.2.2, x4.2.2.2.2.2.2.2.2.1, x4.2.2.2.2.2.2.2.2.2.1, x4.2.2.2.2.2.2.2.2.2.2)) else (j9 ((upd (upd x4.2.1 ((42 : Int32) + x4.1).toNatClampNeg (1 : Int32)) ((42 : Int32) + x4.1).toNatClampNeg (0 : Int32)), r10.2.1, r10.2.2.1, r10.2.2.2.1, r10.2.2.2.2.1, r10.2.2.2.2.2.1, r10.2.2.2.2.2.2, g1, x4.1, r10.1))))))))))))
noncomputable def mX8_triesFor_K43 (F : Nat) (m_s : nF) (m_isOn : nF) (m_steps : nF) (m_wayCells : Int32) (m_turns : Int32) (m_bestAway : Int32) (m_bestMade : Int32) (m_bestFault : Int32) (g1 : Int32) (r1 : (nF × nF)) (x2 : nF) : Option (nF × nF × nF × nF × nF × Int32 × Int32 × Int32 × Int32 × Int32 × nF) :=
  lpr (mX8_triesFor_L45 F g1 x2) F ((0 : Int32), m_s, r1.1, r1.2, m_isOn, m_steps, m_wayCells, m_turns, m_bestAway, m_bestMade, m_bestFault)
noncomputable def mX8_triesFor_L9 (m_s : nF) (r1 : (nF × nF)) (j3 : nF → Option (nF × nF × nF × nF × nF × Int32 × Int32 × Int32 × Int32 × Int32 × nF)) (self12 : (Int32 × nF) → Option (nF × nF × nF × nF × nF × Int32 × Int32 × Int32 × Int32 × Int32 × nF)) (x11 : (Int32 × nF)) : Option (nF × nF × nF × nF × nF × Int32 × Int32 × Int32 × Int32 × Int32 × nF) :=
  (mX8_cells m_s).bind fun r13 => if r13 ≤ x11.1 then (j3 x11.2) else (gd (inb x11.1 36) (jn (fun x14 : Int32 => gd (inb x11.1 36) (self12 (x11.1 + (1 : Int32), (upd x11.2 x11.1.toNatClampNeg (vp_nar .boolean x14))))) (fun j15 => if (r1.1 x11.1.toNatClampNeg) < 0 then (j15 (0 : Int32)) else (j15 (1 : Int32)))))
noncomputable def mX8_triesFor (F : Nat) (m_s : nF) (m_far : nF) (m_queue : nF) (m_isOn : nF) (m_steps : nF) (m_wayCells : Int32) (m_turns : Int32) (m_bestAway : Int32) (m_bestMade : Int32) (m_bestFault : Int32) (m_isHere : nF) (g1 : Int32) : Option (nF × nF × nF × nF × nF × Int32 × Int32 × Int32 × Int32 × Int32 × nF) :=
  gd (nz (2 : Int32)) ((mX8_measures F m_s m_far m_queue (g1 / (2 : Int32))).bind fun r1 => jn (mX8_triesFor_K43 F m_s m_isOn m_steps m_wayCells m_turns m_bestAway m_bestMade m_bestFault g1 r1) (fun j3 => lpr (mX8_triesFor_L9 m_s r1 j3) F ((0 : Int32), m_isHere)))

noncomputable def mX8_looksForBest_L8 (F : Nat) (self2 : (Int32 × nF × nF × nF × nF × nF × Int32 × Int32 × Int32 × Int32 × Int32 × nF) → Option (nF × nF × nF × nF × nF × Int32 × Int32 × Int32 × Int32 × Int32 × nF)) (x1 : (Int32 × nF × nF × nF × nF × nF × Int32 × Int32 × Int32 × Int32 × Int32 × nF)) : Option (nF × nF × nF × nF × nF × Int32 × Int32 × Int32 × Int32 × Int32 × nF) :=
  (mX8_cells x1.2.1).bind fun r3 => if ((2 : Int32) * r3) ≤ x1.1 then (some (x1.2.1, x1.2.2.1, x1.2.2.2.1, x1.2.2.2.2.1, x1.2.2.2.2.2.1, x1.2.2.2.2.2.2.1, x1.2.2.2.2.2.2.2.1, x1.2.2.2.2.2.2.2.2.1, x1.2.2.2.2.2.2.2.2.2.1, x1.2.2.2.2.2.2.2.2.2.2.1, x1.2.2.2.2.2.2.2.2.2.2.2)) else (gd (inb ((42 : Int32) + x1.1) 114) (jn (fun x4 : (nF × nF × nF × nF × nF × Int32 × Int32 × Int32 × Int32 × Int32 × nF) => self2 (x1.1 + (1 : Int32), x4.1, x4.2.1, x4.2.2.1, x4.2.2.2.1, x4.2.2.2.2.1, x4.2.2.2.2.2.1, x4.2.2.2.2.2.2.1, x4.2.2.2.2.2.2.2.1, x4.2.2.2.2.2.2.2.2.1, x4.2.2.2.2.2.2.2.2.2.1, x4.2.2.2.2.2.2.2.2.2.2)) (fun j5 => if (x1.2.1 ((42 : Int32) + x1.1).toNatClampNeg) = (1 : Int32) then (gd (inb ((42 : Int32) + x1.1) 114) ((mX8_triesFor F (upd x1.2.1 ((42 : Int32) + x1.1).toNatClampNeg (0 : Int32)) x1.2.2.1 x1.2.2.2.1 x1.2.2.2.2.1 x1.2.2.2.2.2.1 x1.2.2.2.2.2.2.1 x1.2.2.2.2.2.2.2.1 x1.2.2.2.2.2.2.2.2.1 x1.2.2.2.2.2.2.2.2.2.1 x1.2.2.2.2.2.2.2.2.2.2.1 x1.2.2.2.2.2.2.2.2.2.2.2 x1.1).bind fun r6 => gd (inb ((42 : Int32) + x1.1) 114) (j5 ((upd r6.1 ((42 : Int32) + x1.1).toNatClampNeg (1 : Int32)), r6.2.1, r6.2.2.1, r6.2.2.2.1, r6.2.2.2.2.1, r6.2.2.2.2.2.1, r6.2.2.2.2.2.2.1, r6.2.2.2.2.2.2.2.1, r6.2.2.2.2.2.2.2.2.1, r6.2.2.2.2.2.2.2.2.2.1, r6.2.2.2.2.2.2.2.2.2.2)))) else (j5 (x1.2.1, x1.2.2.1, x1.2.2.2.1, x1.2.2.2.2.1, x1.2.2.2.2.2.1, x1.2.2.2.2.2.2.1, x1.2.2.2.2.2.2.2.1, x1.2.2.2.2.2.2.2.2.1, x1.2.2.2.2.2.2.2.2.2.1, x1.2.2.2.2.2.2.2.2.2.2.1, x1.2.2.2.2.2.2.2.2.2.2.2)))))
noncomputable def mX8_looksForBest (F : Nat) (m_s : nF) (m_far : nF) (m_queue : nF) (m_isOn : nF) (m_steps : nF) (m_wayCells : Int32) (m_turns : Int32) (m_bestAway : Int32) (m_bestMade : Int32) (m_bestFault : Int32) (m_isHere : nF) : Option (nF × nF × nF × nF × nF × Int32 × Int32 × Int32 × Int32 × Int32 × nF) :=
  lpr (mX8_looksForBest_L8 F) F ((0 : Int32), m_s, m_far, m_queue, m_isOn, m_steps, m_wayCells, m_turns, m_bestAway, m_bestMade, (1000000 : Int32), m_isHere)

noncomputable def mX8_exchanges (m_s : nF) (m_bestAway : Int32) (m_bestMade : Int32) : Option nF :=
  gd (inb ((42 : Int32) + m_bestAway) 114) (gd (inb ((42 : Int32) + m_bestMade) 114) (some (upd (upd m_s ((42 : Int32) + m_bestAway).toNatClampNeg (0 : Int32)) ((42 : Int32) + m_bestMade).toNatClampNeg (1 : Int32))))

noncomputable def mX8_build_K130 (F : Nat) (m_past : nF) (m_states : Int32) (r1 : nF) (x3 : (Int32 × nF × nF × nF)) : Option (Int32 × nF × nF × nF × Int32 × nF × nF) :=
  (mX8_acted F x3.2.1 r1 m_past m_states x3.1).bind fun r5 => some (r5.1, r5.2.1, r1, r5.2.2.1, r5.2.2.2, x3.2.2.1, x3.2.2.2)
noncomputable def mX8_build_K114 (self7 : (Int32 × nF × nF × nF) → Option (Int32 × nF × nF × nF × Int32 × nF × nF)) (x6 : (Int32 × nF × nF × nF)) (x9 : (Int32 × nF × nF)) : Option (Int32 × nF × nF × nF × Int32 × nF × nF) :=
  gd (inb ((42 : Int32) + x9.1) 114) (self7 (x6.1 + (1 : Int32), (upd x6.2.1 ((42 : Int32) + x9.1).toNatClampNeg (1 : Int32)), x9.2.1, x9.2.2))
noncomputable def mX8_build_L30 (F : Nat) (x6 : (Int32 × nF × nF × nF)) (j10 : (Int32 × nF × nF) → Option (Int32 × nF × nF × nF × Int32 × nF × nF)) (self12 : (Int32 × Int32 × Int32 × nF × nF) → Option (Int32 × nF × nF × nF × Int32 × nF × nF)) (x11 : (Int32 × Int32 × Int32 × nF × nF)) : Option (Int32 × nF × nF × nF × Int32 × nF × nF) :=
  (mX8_cells x6.2.1).bind fun r13 => if ((2 : Int32) * r13) ≤ x11.2.2.1 then (j10 (x11.1, x11.2.2.2.1, x11.2.2.2.2)) else ((mX8_second x6.2.1 x11.2.2.1).bind fun r14 => jn (fun x15 : Int32 => jn (fun x17 : (Int32 × Int32 × nF × nF) => self12 (x17.1, x17.2.1, x11.2.2.1 + (1 : Int32), x17.2.2.1, x17.2.2.2)) (fun j18 => if x15 ≤ x11.2.1 then (j18 (x11.1, x11.2.1, x11.2.2.2.1, x11.2.2.2.2)) else (gd (nz (2 : Int32)) ((mX8_areJoined F x6.2.1 x11.2.2.2.1 x11.2.2.2.2 (x11.2.2.1 / (2 : Int32)) r14).bind fun r19 => if r19.1 = 0 then (j18 (x11.2.2.1, x15, r19.2.1, r19.2.2)) else (j18 (x11.1, x11.2.1, r19.2.1, r19.2.2)))))) (fun j16 => if 0 ≤ r14 then (gd (nz (2 : Int32)) (gd (inb ((6 : Int32) + (x11.2.2.1 / (2 : Int32))) 114) (gd (inb ((6 : Int32) + r14) 114) (j16 ((x6.2.1 ((6 : Int32) + (x11.2.2.1 / (2 : Int32))).toNatClampNeg) + (x6.2.1 ((6 : Int32) + r14).toNatClampNeg)))))) else (j16 (-1 : Int32))))
noncomputable def mX8_build_L16 (F : Nat) (j4 : (Int32 × nF × nF × nF) → Option (Int32 × nF × nF × nF × Int32 × nF × nF)) (self7 : (Int32 × nF × nF × nF) → Option (Int32 × nF × nF × nF × Int32 × nF × nF)) (x6 : (Int32 × nF × nF × nF)) : Option (Int32 × nF × nF × nF × Int32 × nF × nF) :=
  (mX8_isWhole F x6.2.1).bind fun r8 => if r8 = 0 then (jn (mX8_build_K114 self7 x6) (fun j10 => lpr (mX8_build_L30 F x6 j10) F ((-1 : Int32), (-1 : Int32), (0 : Int32), x6.2.2.1, x6.2.2.2))) else (j4 (x6.1, x6.2.1, x6.2.2.1, x6.2.2.2))
noncomputable def mX8_build (F : Nat) (m_s : nF) (m_begun : nF) (m_past : nF) (m_states : Int32) (m_far : nF) (m_queue : nF) : Option (Int32 × nF × nF × nF × Int32 × nF × nF) :=
  (mX8_begins F m_s m_begun).bind fun r1 => (mX8_isWhole F m_s).bind fun r2 => if r2 = 0 then (jn (mX8_build_K130 F m_past m_states r1) (fun j4 => lpr (mX8_build_L16 F j4) F ((0 : Int32), m_s, m_far, m_queue))) else (some ((-2 : Int32), m_s, r1, m_past, m_states, m_far, m_queue))

noncomputable def mX8_exchange (F : Nat) (m_s : nF) (m_begun : nF) (m_past : nF) (m_states : Int32) (m_far : nF) (m_queue : nF) (m_isOn : nF) (m_steps : nF) (m_wayCells : Int32) (m_turns : Int32) (m_bestAway : Int32) (m_bestMade : Int32) (m_bestFault : Int32) (m_isHere : nF) : Option (Int32 × nF × nF × nF × Int32 × nF × nF × nF × nF × Int32 × Int32 × Int32 × Int32 × Int32 × nF) :=
  (mX8_begins F m_s m_begun).bind fun r1 => (mX8_isWhole F m_s).bind fun r2 => if r2 = 0 then (some ((-2 : Int32), m_s, r1, m_past, m_states, m_far, m_queue, m_isOn, m_steps, m_wayCells, m_turns, m_bestAway, m_bestMade, m_bestFault, m_isHere)) else ((mX8_looksForBest F m_s m_far m_queue m_isOn m_steps m_wayCells m_turns m_bestAway m_bestMade m_bestFault m_isHere).bind fun r3 => (mX8_wayFault F r3.1 r3.2.1 r3.2.2.1 r3.2.2.2.1 r3.2.2.2.2.1 r3.2.2.2.2.2.1 r3.2.2.2.2.2.2.1).bind fun r4 => if r3.2.2.2.2.2.2.2.2.2.1 < r4.1 then ((mX8_exchanges r3.1 r3.2.2.2.2.2.2.2.1 r3.2.2.2.2.2.2.2.2.1).bind fun r5 => (mX8_wayFault F r5 r4.2.1 r4.2.2.1 r4.2.2.2.1 r4.2.2.2.2.1 r4.2.2.2.2.2.1 r4.2.2.2.2.2.2).bind fun r6 => (mX8_acted F r5 r1 m_past m_states r6.1).bind fun r7 => some (r7.1, r7.2.1, r1, r7.2.2.1, r7.2.2.2, r6.2.1, r6.2.2.1, r6.2.2.2.1, r6.2.2.2.2.1, r6.2.2.2.2.2.1, r6.2.2.2.2.2.2, r3.2.2.2.2.2.2.2.1, r3.2.2.2.2.2.2.2.2.1, r3.2.2.2.2.2.2.2.2.2.1, r3.2.2.2.2.2.2.2.2.2.2)) else (some ((-2 : Int32), r3.1, r1, m_past, m_states, r4.2.1, r4.2.2.1, r4.2.2.2.1, r4.2.2.2.2.1, r4.2.2.2.2.2.1, r4.2.2.2.2.2.2, r3.2.2.2.2.2.2.2.1, r3.2.2.2.2.2.2.2.2.1, r3.2.2.2.2.2.2.2.2.2.1, r3.2.2.2.2.2.2.2.2.2.2)))

noncomputable def mX8_improve_K45 (F : Nat) (m_past : nF) (m_states : Int32) (r1 : nF) (x4 : (Int32 × nF × nF × nF × nF × nF × Int32 × Int32 × Int32 × Int32 × Int32 × nF)) : Option (Int32 × nF × nF × nF × Int32 × nF × nF × nF × nF × Int32 × Int32 × Int32 × Int32 × Int32 × nF) :=
  (mX8_acted F x4.2.1 r1 m_past m_states x4.1).bind fun r6 => some (r6.1, r6.2.1, r1, r6.2.2.1, r6.2.2.2, x4.2.2.1, x4.2.2.2.1, x4.2.2.2.2.1, x4.2.2.2.2.2.1, x4.2.2.2.2.2.2.1, x4.2.2.2.2.2.2.2.1, x4.2.2.2.2.2.2.2.2.1, x4.2.2.2.2.2.2.2.2.2.1, x4.2.2.2.2.2.2.2.2.2.2.1, x4.2.2.2.2.2.2.2.2.2.2.2)
noncomputable def mX8_improve_L20 (F : Nat) (j5 : (Int32 × nF × nF × nF × nF × nF × Int32 × Int32 × Int32 × Int32 × Int32 × nF) → Option (Int32 × nF × nF × nF × Int32 × nF × nF × nF × nF × Int32 × Int32 × Int32 × Int32 × Int32 × nF)) (self8 : (Int32 × nF × nF × nF × nF × nF × Int32 × Int32 × Int32 × Int32 × Int32 × nF) → Option (Int32 × nF × nF × nF × Int32 × nF × nF × nF × nF × Int32 × Int32 × Int32 × Int32 × Int32 × nF)) (x7 : (Int32 × nF × nF × nF × nF × nF × Int32 × Int32 × Int32 × Int32 × Int32 × nF)) : Option (Int32 × nF × nF × nF × Int32 × nF × nF × nF × nF × Int32 × Int32 × Int32 × Int32 × Int32 × nF) :=
  (mX8_wayFault F x7.2.1 x7.2.2.1 x7.2.2.2.1 x7.2.2.2.2.1 x7.2.2.2.2.2.1 x7.2.2.2.2.2.2.1 x7.2.2.2.2.2.2.2.1).bind fun r9 => if r9.1 ≤ x7.2.2.2.2.2.2.2.2.2.2.1 then (j5 (x7.1, x7.2.1, r9.2.1, r9.2.2.1, r9.2.2.2.1, r9.2.2.2.2.1, r9.2.2.2.2.2.1, r9.2.2.2.2.2.2, x7.2.2.2.2.2.2.2.2.1, x7.2.2.2.2.2.2.2.2.2.1, x7.2.2.2.2.2.2.2.2.2.2.1, x7.2.2.2.2.2.2.2.2.2.2.2)) else ((mX8_exchanges x7.2.1 x7.2.2.2.2.2.2.2.2.1 x7.2.2.2.2.2.2.2.2.2.1).bind fun r10 => (mX8_looksForBest F r10 r9.2.1 r9.2.2.1 r9.2.2.2.1 r9.2.2.2.2.1 r9.2.2.2.2.2.1 r9.2.2.2.2.2.2 x7.2.2.2.2.2.2.2.2.1 x7.2.2.2.2.2.2.2.2.2.1 x7.2.2.2.2.2.2.2.2.2.2.1 x7.2.2.2.2.2.2.2.2.2.2.2).bind fun r11 => self8 (x7.1 + (1 : Int32), r11.1, r11.2.1, r11.2.2.1, r11.2.2.2.1, r11.2.2.2.2.1, r11.2.2.2.2.2.1, r11.2.2.2.2.2.2.1, r11.2.2.2.2.2.2.2.1, r11.2.2.2.2.2.2.2.2.1, r11.2.2.2.2.2.2.2.2.2.1, r11.2.2.2.2.2.2.2.2.2.2))
noncomputable def mX8_improve (F : Nat) (m_s : nF) (m_begun : nF) (m_past : nF) (m_states : Int32) (m_far : nF) (m_queue : nF) (m_isOn : nF) (m_steps : nF) (m_wayCells : Int32) (m_turns : Int32) (m_bestAway : Int32) (m_bestMade : Int32) (m_bestFault : Int32) (m_isHere : nF) : Option (Int32 × nF × nF × nF × Int32 × nF × nF × nF × nF × Int32 × Int32 × Int32 × Int32 × Int32 × nF) :=
  (mX8_begins F m_s m_begun).bind fun r1 => (mX8_isWhole F m_s).bind fun r2 => if r2 = 0 then (some ((-2 : Int32), m_s, r1, m_past, m_states, m_far, m_queue, m_isOn, m_steps, m_wayCells, m_turns, m_bestAway, m_bestMade, m_bestFault, m_isHere)) else ((mX8_looksForBest F m_s m_far m_queue m_isOn m_steps m_wayCells m_turns m_bestAway m_bestMade m_bestFault m_isHere).bind fun r3 => jn (mX8_improve_K45 F m_past m_states r1) (fun j5 => lpr (mX8_improve_L20 F j5) F ((0 : Int32), r3.1, r3.2.1, r3.2.2.1, r3.2.2.2.1, r3.2.2.2.2.1, r3.2.2.2.2.2.1, r3.2.2.2.2.2.2.1, r3.2.2.2.2.2.2.2.1, r3.2.2.2.2.2.2.2.2.1, r3.2.2.2.2.2.2.2.2.2.1, r3.2.2.2.2.2.2.2.2.2.2)))

noncomputable def mX8_best (F : Nat) (m_s : nF) (m_far : nF) (m_queue : nF) (m_isOn : nF) (m_steps : nF) (m_wayCells : Int32) (m_turns : Int32) (m_bestAway : Int32) (m_bestMade : Int32) (m_bestFault : Int32) (m_isHere : nF) (g1 : Int32) : Option (Int32 × nF × nF × nF × nF × nF × Int32 × Int32 × Int32 × Int32 × Int32 × nF) :=
  (mX8_in g1 (0 : Int32) (2 : Int32)).bind fun r1 => if r1 = 0 then (some ((-1 : Int32), m_s, m_far, m_queue, m_isOn, m_steps, m_wayCells, m_turns, m_bestAway, m_bestMade, m_bestFault, m_isHere)) else ((mX8_isWhole F m_s).bind fun r2 => if r2 = 0 then (some ((-2 : Int32), m_s, m_far, m_queue, m_isOn, m_steps, m_wayCells, m_turns, m_bestAway, m_bestMade, m_bestFault, m_isHere)) else ((mX8_looksForBest F m_s m_far m_queue m_isOn m_steps m_wayCells m_turns m_bestAway m_bestMade m_bestFault m_isHere).bind fun r3 => jn (fun x4 : Int32 => some (x4, r3.1, r3.2.1, r3.2.2.1, r3.2.2.2.1, r3.2.2.2.2.1, r3.2.2.2.2.2.1, r3.2.2.2.2.2.2.1, r3.2.2.2.2.2.2.2.1, r3.2.2.2.2.2.2.2.2.1, r3.2.2.2.2.2.2.2.2.2.1, r3.2.2.2.2.2.2.2.2.2.2)) (fun j5 => if g1 = 0 then (j5 r3.2.2.2.2.2.2.2.1) else (if g1 = (1 : Int32) then (j5 r3.2.2.2.2.2.2.2.2.1) else (j5 r3.2.2.2.2.2.2.2.2.2.1)))))

noncomputable def mX8_tone (F : Nat) (m_s : nF) (m_begun : nF) (m_past : nF) (m_states : Int32) (g1 : Int32) (g2 : Int32) : Option (Int32 × nF × nF × nF × Int32) :=
  (mX8_begins F m_s m_begun).bind fun r1 => (mX8_isCell m_s g1).bind fun r2 => jn (fun x3 : Unit => some ((-1 : Int32), m_s, r1, m_past, m_states)) (fun j4 => if r2 = 0 then (j4 ()) else ((mX8_in g2 (0 : Int32) (9 : Int32)).bind fun r5 => if r5 = 0 then (j4 ()) else (gd (inb ((6 : Int32) + g1) 114) (gd (inb ((6 : Int32) + g1) 114) ((mX8_acted F (upd m_s ((6 : Int32) + g1).toNatClampNeg g2) r1 m_past m_states (m_s ((6 : Int32) + g1).toNatClampNeg)).bind fun r6 => some (r6.1, r6.2.1, r1, r6.2.2.1, r6.2.2.2))))))

noncomputable def mX8_carve (F : Nat) (m_s : nF) (m_begun : nF) (m_past : nF) (m_states : Int32) (m_far : nF) (m_queue : nF) (g1 : Int32) (g2 : Int32) : Option (Int32 × nF × nF × nF × Int32 × nF × nF) :=
  (mX8_begins F m_s m_begun).bind fun r1 => (mX8_isCell m_s g1).bind fun r2 => jn (fun x3 : Unit => some ((-1 : Int32), m_s, r1, m_past, m_states, m_far, m_queue)) (fun j4 => if r2 = 0 then (j4 ()) else ((mX8_in g2 (0 : Int32) (3 : Int32)).bind fun r5 => if r5 = 0 then (j4 ()) else ((mX8_besides m_s g1 g2).bind fun r6 => jn (fun x7 : (nF × nF) => some ((-2 : Int32), m_s, r1, m_past, m_states, x7.1, x7.2)) (fun j8 => if r6 < 0 then (j8 (m_far, m_queue)) else ((mX8_areJoined F m_s m_far m_queue g1 r6).bind fun r9 => if r9.1 = 0 then ((mX8_numberOf m_s g1 g2).bind fun r10 => gd (inb ((42 : Int32) + r10) 114) ((mX8_parts F (upd m_s ((42 : Int32) + r10).toNatClampNeg (1 : Int32))).bind fun r11 => (mX8_acted F (upd m_s ((42 : Int32) + r10).toNatClampNeg (1 : Int32)) r1 m_past m_states r11).bind fun r12 => some (r12.1, r12.2.1, r1, r12.2.2.1, r12.2.2.2, r9.2.1, r9.2.2))) else (j8 (r9.2.1, r9.2.2)))))))

noncomputable def mX8_wall (F : Nat) (m_s : nF) (m_begun : nF) (m_past : nF) (m_states : Int32) (g1 : Int32) (g2 : Int32) : Option (Int32 × nF × nF × nF × Int32) :=
  (mX8_begins F m_s m_begun).bind fun r1 => (mX8_isCell m_s g1).bind fun r2 => jn (fun x3 : Unit => some ((-1 : Int32), m_s, r1, m_past, m_states)) (fun j4 => if r2 = 0 then (j4 ()) else ((mX8_in g2 (0 : Int32) (3 : Int32)).bind fun r5 => if r5 = 0 then (j4 ()) else ((mX8_isOpen m_s g1 g2).bind fun r6 => if r6 = 0 then (some ((-2 : Int32), m_s, r1, m_past, m_states)) else ((mX8_numberOf m_s g1 g2).bind fun r7 => gd (inb ((42 : Int32) + r7) 114) ((mX8_parts F (upd m_s ((42 : Int32) + r7).toNatClampNeg (0 : Int32))).bind fun r8 => (mX8_acted F (upd m_s ((42 : Int32) + r7).toNatClampNeg (0 : Int32)) r1 m_past m_states r8).bind fun r9 => some (r9.1, r9.2.1, r1, r9.2.2.1, r9.2.2.2))))))

noncomputable def mX8_door (F : Nat) (m_s : nF) (m_begun : nF) (m_past : nF) (m_states : Int32) (g1 : Int32) (g2 : Int32) (g3 : Int32) : Option (Int32 × nF × nF × nF × Int32) :=
  (mX8_begins F m_s m_begun).bind fun r1 => (mX8_in g1 (0 : Int32) (1 : Int32)).bind fun r2 => jn (fun x3 : Unit => some ((-1 : Int32), m_s, r1, m_past, m_states)) (fun j4 => if r2 = 0 then (j4 ()) else ((mX8_isCell m_s g2).bind fun r5 => if r5 = 0 then (j4 ()) else ((mX8_in g3 (0 : Int32) (3 : Int32)).bind fun r6 => if r6 = 0 then (j4 ()) else ((mX8_besides m_s g2 g3).bind fun r7 => jn (fun x8 : Unit => some ((-2 : Int32), m_s, r1, m_past, m_states)) (fun j9 => if 0 ≤ r7 then (j9 ()) else (gd (inb ((4 : Int32) - ((2 : Int32) * g1)) 114) (jn (fun x10 : Unit => gd (inb ((2 : Int32) + ((2 : Int32) * g1)) 114) (gd (inb ((2 : Int32) + ((2 : Int32) * g1)) 114) (gd (inb (((2 : Int32) + ((2 : Int32) * g1)) + (1 : Int32)) 114) ((mX8_acted F (upd (upd m_s ((2 : Int32) + ((2 : Int32) * g1)).toNatClampNeg g2) (((2 : Int32) + ((2 : Int32) * g1)) + (1 : Int32)).toNatClampNeg g3) r1 m_past m_states (m_s ((2 : Int32) + ((2 : Int32) * g1)).toNatClampNeg)).bind fun r12 => some (r12.1, r12.2.1, r1, r12.2.2.1, r12.2.2.2))))) (fun j11 => if (m_s ((4 : Int32) - ((2 : Int32) * g1)).toNatClampNeg) = g2 then (gd (inb (((4 : Int32) - ((2 : Int32) * g1)) + (1 : Int32)) 114) (if (m_s (((4 : Int32) - ((2 : Int32) * g1)) + (1 : Int32)).toNatClampNeg) = g3 then (j9 ()) else (j11 ()))) else (j11 ())))))))))

noncomputable def mX8_directions_L4 (m_s : nF) (g1 : Int32) (self2 : (Int32 × Int32) → Option Int32) (x1 : (Int32 × Int32)) : Option Int32 :=
  if (4 : Int32) ≤ x1.2 then (some x1.1) else ((mX8_isOpen m_s g1 x1.2).bind fun r3 => jn (fun x4 : Int32 => self2 (x1.1 ||| x4, x1.2 + (1 : Int32))) (fun j5 => if r3 = 0 then (j5 (0 : Int32)) else (j5 ((1 : Int32) <<< (x1.2 &&& 31)))))
noncomputable def mX8_directions (F : Nat) (m_s : nF) (g1 : Int32) : Option Int32 :=
  lpr (mX8_directions_L4 m_s g1) F ((0 : Int32), (0 : Int32))

noncomputable def mX8_partOf_K69 (g2 : Int32) (r1 : (nF × nF)) (x2 : (Int32 × Int32)) : Option (Int32 × nF × nF) :=
  jn (fun x4 : Int32 => some (x4, r1.1, r1.2)) (fun j5 => if g2 = 0 then (j5 x2.2) else (j5 x2.1))
noncomputable def mX8_partOf_L13 (m_s : nF) (r1 : (nF × nF)) (j3 : (Int32 × Int32) → Option (Int32 × nF × nF)) (self7 : (Int32 × Int32 × Int32) → Option (Int32 × nF × nF)) (x6 : (Int32 × Int32 × Int32)) : Option (Int32 × nF × nF) :=
  (mX8_cells m_s).bind fun r8 => if r8 ≤ x6.2.2 then (j3 (x6.1, x6.2.1)) else (jn (fun x9 : Int32 => gd (inb x6.2.2 36) (jn (fun x11 : Int32 => self7 (x9, x6.2.1 + x11, x6.2.2 + (1 : Int32))) (fun j12 => if (r1.1 x6.2.2.toNatClampNeg) < 0 then (j12 (0 : Int32)) else (j12 (1 : Int32))))) (fun j10 => jn (fun x13 : Unit => j10 x6.1) (fun j14 => if 0 ≤ x6.1 then (j14 ()) else (gd (inb x6.2.2 36) (if (r1.1 x6.2.2.toNatClampNeg) < 0 then (j14 ()) else (j10 x6.2.2))))))
noncomputable def mX8_partOf (F : Nat) (m_s : nF) (m_far : nF) (m_queue : nF) (g1 : Int32) (g2 : Int32) : Option (Int32 × nF × nF) :=
  (mX8_measures F m_s m_far m_queue g1).bind fun r1 => jn (mX8_partOf_K69 g2 r1) (fun j3 => lpr (mX8_partOf_L13 m_s r1 j3) F ((-1 : Int32), (0 : Int32), (0 : Int32)))

noncomputable def mX8_orNone (g0 : Int32) : Option Int32 :=
  jn (fun x1 : Int32 => some x1) (fun j2 => if 0 ≤ g0 then (j2 g0) else (j2 (-4 : Int32)))

noncomputable def mX8_onWay (F : Nat) (m_s : nF) (m_far : nF) (m_queue : nF) (m_isOn : nF) (m_steps : nF) (m_wayCells : Int32) (m_turns : Int32) (g1 : Int32) : Option (Int32 × nF × nF × nF × nF × Int32 × Int32) :=
  gd (inb (4 : Int32) 114) ((mX8_findsWay F m_s m_far m_queue m_isOn m_steps m_wayCells m_turns (m_s (4 : Int32).toNatClampNeg)).bind fun r1 => gd (inb g1 36) (jn (fun x2 : Int32 => some (x2, r1.2.1, r1.2.2.1, r1.2.2.2.1, r1.2.2.2.2.1, r1.2.2.2.2.2.1, r1.2.2.2.2.2.2)) (fun j3 => if (r1.2.2.2.1 g1.toNatClampNeg) = 0 then (j3 (0 : Int32)) else (j3 (1 : Int32)))))

noncomputable def mX8_cellOf (F : Nat) (m_s : nF) (m_far : nF) (m_queue : nF) (m_isOn : nF) (m_steps : nF) (m_wayCells : Int32) (m_turns : Int32) (m_visits : nF) (m_wasSo : nF) (g1 : Int32) (g2 : Int32) : Option (Int32 × nF × nF × nF × nF × Int32 × Int32 × nF × nF) :=
  (mX8_isCell m_s g1).bind fun r1 => jn (fun x2 : Unit => some ((-1 : Int32), m_far, m_queue, m_isOn, m_steps, m_wayCells, m_turns, m_visits, m_wasSo)) (fun j3 => if r1 = 0 then (j3 ()) else ((mX8_in g2 (0 : Int32) (6 : Int32)).bind fun r4 => if r4 = 0 then (j3 ()) else (if g2 = (0 : Int32) then (gd (inb ((6 : Int32) + g1) 114) (some (m_s ((6 : Int32) + g1).toNatClampNeg, m_far, m_queue, m_isOn, m_steps, m_wayCells, m_turns, m_visits, m_wasSo))) else if g2 = (1 : Int32) then ((mX8_directions F m_s g1).bind fun r7 => some (r7, m_far, m_queue, m_isOn, m_steps, m_wayCells, m_turns, m_visits, m_wasSo)) else if g2 = (2 : Int32) then ((mX8_partOf F m_s m_far m_queue g1 (1 : Int32)).bind fun r9 => some (r9.1, r9.2.1, r9.2.2, m_isOn, m_steps, m_wayCells, m_turns, m_visits, m_wasSo)) else if g2 = (3 : Int32) then ((mX8_partOf F m_s m_far m_queue g1 (0 : Int32)).bind fun r11 => some (r11.1, r11.2.1, r11.2.2, m_isOn, m_steps, m_wayCells, m_turns, m_visits, m_wasSo)) else if g2 = (4 : Int32) then (gd (inb (2 : Int32) 114) ((mX8_measures F m_s m_far m_queue (m_s (2 : Int32).toNatClampNeg)).bind fun r13 => gd (inb g1 36) ((mX8_orNone (r13.1 g1.toNatClampNeg)).bind fun r14 => some (r14, r13.1, r13.2, m_isOn, m_steps, m_wayCells, m_turns, m_visits, m_wasSo)))) else if g2 = (5 : Int32) then ((mX8_onWay F m_s m_far m_queue m_isOn m_steps m_wayCells m_turns g1).bind fun r16 => some (r16.1, r16.2.1, r16.2.2.1, r16.2.2.2.1, r16.2.2.2.2.1, r16.2.2.2.2.2.1, r16.2.2.2.2.2.2, m_visits, m_wasSo)) else ((mX8_walks F m_s m_visits m_wasSo).bind fun r17 => jn (fun x18 : Int32 => some (x18, m_far, m_queue, m_isOn, m_steps, m_wayCells, m_turns, r17.2.1, r17.2.2)) (fun j19 => if r17.1 = 0 then (j19 (-4 : Int32)) else (gd (inb g1 36) (j19 (r17.2.1 g1.toNatClampNeg))))))))

noncomputable def mX8_doorOf (m_s : nF) (g1 : Int32) (g2 : Int32) : Option Int32 :=
  (mX8_in g1 (0 : Int32) (1 : Int32)).bind fun r1 => jn (fun x2 : Int32 => some x2) (fun j3 => jn (fun x4 : Unit => j3 (-1 : Int32)) (fun j5 => if r1 = 0 then (j5 ()) else ((mX8_in g2 (0 : Int32) (1 : Int32)).bind fun r6 => if r6 = 0 then (j5 ()) else (gd (inb (((2 : Int32) + ((2 : Int32) * g1)) + g2) 114) (j3 (m_s (((2 : Int32) + ((2 : Int32) * g1)) + g2).toNatClampNeg))))))

noncomputable def mX8_ends_L4 (F : Nat) (m_s : nF) (self2 : (Int32 × Int32) → Option Int32) (x1 : (Int32 × Int32)) : Option Int32 :=
  (mX8_cells m_s).bind fun r3 => if r3 ≤ x1.2 then (some x1.1) else ((mX8_directions F m_s x1.2).bind fun r4 => jn (fun x5 : Int32 => self2 (x1.1 + x5, x1.2 + (1 : Int32))) (fun j6 => jn (fun x7 : Unit => j6 (1 : Int32)) (fun j8 => if r4 = (1 : Int32) then (j8 ()) else (if r4 = (2 : Int32) then (j8 ()) else (if r4 = (4 : Int32) then (j8 ()) else (if r4 = (8 : Int32) then (j8 ()) else (j6 (0 : Int32))))))))
noncomputable def mX8_ends (F : Nat) (m_s : nF) : Option Int32 :=
  lpr (mX8_ends_L4 F m_s) F ((0 : Int32), (0 : Int32))

noncomputable def mX8_tones_L4 (m_s : nF) (self2 : (Int32 × Int32) → Option Int32) (x1 : (Int32 × Int32)) : Option Int32 :=
  (mX8_cells m_s).bind fun r3 => if r3 ≤ x1.2 then (some x1.1) else (gd (inb ((6 : Int32) + x1.2) 114) (self2 (x1.1 + (m_s ((6 : Int32) + x1.2).toNatClampNeg), x1.2 + (1 : Int32))))
noncomputable def mX8_tones (F : Nat) (m_s : nF) : Option Int32 :=
  lpr (mX8_tones_L4 m_s) F ((0 : Int32), (0 : Int32))

noncomputable def mX8_count (F : Nat) (m_s : nF) (m_isKept : Int32) (m_states : Int32) (m_length : Int32) (g1 : Int32) : Option Int32 :=
  if g1 = (0 : Int32) then (gd (inb g1 114) (some (m_s g1.toNatClampNeg))) else if g1 = (1 : Int32) then (gd (inb g1 114) (some (m_s g1.toNatClampNeg))) else if g1 = (2 : Int32) then ((mX8_passages F m_s).bind fun r4 => some r4) else if g1 = (3 : Int32) then ((mX8_parts F m_s).bind fun r6 => some r6) else if g1 = (4 : Int32) then ((mX8_isWhole F m_s).bind fun r8 => jn (fun x9 : Int32 => some x9) (fun j10 => if r8 = 0 then (j10 (0 : Int32)) else (j10 (1 : Int32)))) else if g1 = (5 : Int32) then ((mX8_ends F m_s).bind fun r12 => some r12) else if g1 = (6 : Int32) then ((mX8_tones F m_s).bind fun r14 => some r14) else if g1 = (7 : Int32) then (some m_states) else if g1 = (8 : Int32) then (some m_length) else (jn (fun x17 : Int32 => some x17) (fun j18 => if g1 = (9 : Int32) then (if m_isKept = 0 then (j18 (0 : Int32)) else (j18 (1 : Int32))) else (j18 (-1 : Int32))))

noncomputable def mX8_way (F : Nat) (m_s : nF) (m_far : nF) (m_queue : nF) (m_isOn : nF) (m_steps : nF) (m_wayCells : Int32) (m_turns : Int32) (g1 : Int32) : Option (Int32 × nF × nF × nF × nF × Int32 × Int32) :=
  if 0 ≤ g1 then (gd (inb (4 : Int32) 114) ((mX8_findsWay F m_s m_far m_queue m_isOn m_steps m_wayCells m_turns (m_s (4 : Int32).toNatClampNeg)).bind fun r1 => jn (fun x2 : Int32 => some (x2, r1.2.1, r1.2.2.1, r1.2.2.2.1, r1.2.2.2.2.1, r1.2.2.2.2.2.1, r1.2.2.2.2.2.2)) (fun j3 => jn (fun x4 : Unit => j3 (-4 : Int32)) (fun j5 => if r1.1 = 0 then (j5 ()) else (if r1.2.2.2.2.2.1 ≤ g1 then (j5 ()) else (gd (inb g1 36) (j3 (r1.2.2.2.2.1 g1.toNatClampNeg)))))))) else (some ((-1 : Int32), m_far, m_queue, m_isOn, m_steps, m_wayCells, m_turns))

noncomputable def mX8_drawn (F : Nat) (m_s : nF) (m_far : nF) (m_queue : nF) (m_isOn : nF) (m_steps : nF) (m_wayCells : Int32) (m_turns : Int32) (m_visits : nF) (m_wasSo : nF) (g1 : Int32) : Option (Int32 × nF × nF × nF × nF × Int32 × Int32 × nF × nF) :=
  if g1 = (0 : Int32) then (gd (inb (4 : Int32) 114) ((mX8_findsWay F m_s m_far m_queue m_isOn m_steps m_wayCells m_turns (m_s (4 : Int32).toNatClampNeg)).bind fun r2 => jn (fun x3 : Int32 => some (x3, r2.2.1, r2.2.2.1, r2.2.2.2.1, r2.2.2.2.2.1, r2.2.2.2.2.2.1, r2.2.2.2.2.2.2, m_visits, m_wasSo)) (fun j4 => if r2.1 = 0 then (j4 (-4 : Int32)) else (j4 r2.2.2.2.2.2.1)))) else if g1 = (1 : Int32) then ((mX8_wayFault F m_s m_far m_queue m_isOn m_steps m_wayCells m_turns).bind fun r6 => some (r6.1, r6.2.1, r6.2.2.1, r6.2.2.2.1, r6.2.2.2.2.1, r6.2.2.2.2.2.1, r6.2.2.2.2.2.2, m_visits, m_wasSo)) else if g1 = (2 : Int32) then ((mX8_walks F m_s m_visits m_wasSo).bind fun r8 => jn (fun x9 : Int32 => some (x9, m_far, m_queue, m_isOn, m_steps, m_wayCells, m_turns, r8.2.1, r8.2.2)) (fun j10 => if r8.1 = 0 then (j10 (-4 : Int32)) else ((mX8_walkCells F m_s r8.2.1).bind fun r11 => j10 r11))) else if g1 = (3 : Int32) then ((mX8_walks F m_s m_visits m_wasSo).bind fun r13 => jn (fun x14 : Int32 => some (x14, m_far, m_queue, m_isOn, m_steps, m_wayCells, m_turns, r13.2.1, r13.2.2)) (fun j15 => if r13.1 = 0 then (j15 (-4 : Int32)) else ((mX8_walkFault F m_s r13.2.1).bind fun r16 => j15 r16))) else if g1 = (4 : Int32) then (gd (inb (4 : Int32) 114) ((mX8_findsWay F m_s m_far m_queue m_isOn m_steps m_wayCells m_turns (m_s (4 : Int32).toNatClampNeg)).bind fun r18 => jn (fun x19 : Int32 => some (x19, r18.2.1, r18.2.2.1, r18.2.2.2.1, r18.2.2.2.2.1, r18.2.2.2.2.2.1, r18.2.2.2.2.2.2, m_visits, m_wasSo)) (fun j20 => if r18.1 = 0 then (j20 (-4 : Int32)) else (j20 r18.2.2.2.2.2.2)))) else (some ((-1 : Int32), m_far, m_queue, m_isOn, m_steps, m_wayCells, m_turns, m_visits, m_wasSo))

noncomputable def mX8_between (F : Nat) (m_s : nF) (m_far : nF) (m_queue : nF) (g1 : Int32) (g2 : Int32) : Option (Int32 × nF × nF) :=
  (mX8_isCell m_s g1).bind fun r1 => jn (fun x2 : Unit => some ((-1 : Int32), m_far, m_queue)) (fun j3 => if r1 = 0 then (j3 ()) else ((mX8_isCell m_s g2).bind fun r4 => if r4 = 0 then (j3 ()) else ((mX8_measures F m_s m_far m_queue g1).bind fun r5 => gd (inb g2 36) ((mX8_orNone (r5.1 g2.toNatClampNeg)).bind fun r6 => some (r6, r5.1, r5.2)))))

noncomputable def mX8_farthest_K90 (g1 : Int32) (x2 : (Int32 × Int32 × Int32 × nF × nF)) : Option (Int32 × nF × nF) :=
  jn (fun x4 : Int32 => some (x4, x2.2.2.2.1, x2.2.2.2.2)) (fun j5 => if x2.2.2.1 = 0 then (j5 (-4 : Int32)) else (if g1 = 0 then (j5 x2.1) else (if g1 = (1 : Int32) then (j5 x2.2.1) else (j5 x2.2.2.1))))
noncomputable def mX8_farthest_K84 (self7 : (Int32 × Int32 × Int32 × Int32 × nF × nF) → Option (Int32 × nF × nF)) (x6 : (Int32 × Int32 × Int32 × Int32 × nF × nF)) (r9 : (nF × nF)) (x10 : (Int32 × Int32 × Int32)) : Option (Int32 × nF × nF) :=
  self7 (x10.1, x10.2.1, x10.2.2, x6.2.2.2.1 + (1 : Int32), r9.1, r9.2)
noncomputable def mX8_farthest_L42 (m_s : nF) (x6 : (Int32 × Int32 × Int32 × Int32 × nF × nF)) (r9 : (nF × nF)) (j11 : (Int32 × Int32 × Int32) → Option (Int32 × nF × nF)) (self13 : (Int32 × Int32 × Int32 × Int32) → Option (Int32 × nF × nF)) (x12 : (Int32 × Int32 × Int32 × Int32)) : Option (Int32 × nF × nF) :=
  (mX8_cells m_s).bind fun r14 => if r14 ≤ x12.2.2.2 then (j11 (x12.1, x12.2.1, x12.2.2.1)) else (gd (inb x12.2.2.2 36) (jn (fun x15 : (Int32 × Int32 × Int32) => self13 (x15.1, x15.2.1, x15.2.2, x12.2.2.2 + (1 : Int32))) (fun j16 => if (r9.1 x12.2.2.2.toNatClampNeg) ≤ x12.2.2.1 then (j16 (x12.1, x12.2.1, x12.2.2.1)) else (gd (inb x12.2.2.2 36) (j16 (x6.2.2.2.1, x12.2.2.2, r9.1 x12.2.2.2.toNatClampNeg))))))
noncomputable def mX8_farthest_L21 (F : Nat) (m_s : nF) (j3 : (Int32 × Int32 × Int32 × nF × nF) → Option (Int32 × nF × nF)) (self7 : (Int32 × Int32 × Int32 × Int32 × nF × nF) → Option (Int32 × nF × nF)) (x6 : (Int32 × Int32 × Int32 × Int32 × nF × nF)) : Option (Int32 × nF × nF) :=
  (mX8_cells m_s).bind fun r8 => if r8 ≤ x6.2.2.2.1 then (j3 (x6.1, x6.2.1, x6.2.2.1, x6.2.2.2.2.1, x6.2.2.2.2.2)) else ((mX8_measures F m_s x6.2.2.2.2.1 x6.2.2.2.2.2 x6.2.2.2.1).bind fun r9 => jn (mX8_farthest_K84 self7 x6 r9) (fun j11 => lpr (mX8_farthest_L42 m_s x6 r9 j11) F (x6.1, x6.2.1, x6.2.2.1, x6.2.2.2.1 + (1 : Int32))))
noncomputable def mX8_farthest (F : Nat) (m_s : nF) (m_far : nF) (m_queue : nF) (g1 : Int32) : Option (Int32 × nF × nF) :=
  (mX8_in g1 (0 : Int32) (2 : Int32)).bind fun r1 => if r1 = 0 then (some ((-1 : Int32), m_far, m_queue)) else (jn (mX8_farthest_K90 g1) (fun j3 => lpr (mX8_farthest_L21 F m_s j3) F ((-1 : Int32), (-1 : Int32), (0 : Int32), (0 : Int32), m_far, m_queue)))

noncomputable def mX8_mayBeExit (m_s : nF) (g1 : Int32) (g2 : Int32) : Option Int32 :=
  (mX8_besides m_s g1 g2).bind fun r1 => jn (fun x2 : Int32 => gd (zb x2) (some x2)) (fun j3 => jn (fun x4 : Unit => j3 (0 : Int32)) (fun j5 => if 0 ≤ r1 then (j5 ()) else (gd (inb (2 : Int32) 114) (jn (fun x6 : Unit => j3 (1 : Int32)) (fun j7 => if (m_s (2 : Int32).toNatClampNeg) = g1 then (gd (inb (3 : Int32) 114) (if (m_s (3 : Int32).toNatClampNeg) = g2 then (j5 ()) else (j7 ()))) else (j7 ()))))))

noncomputable def mX8_bestExit_K150 (g1 : Int32) (x2 : (Int32 × Int32 × Int32 × nF × nF × nF × nF × Int32 × Int32)) : Option (Int32 × nF × nF × nF × nF × Int32 × Int32) :=
  jn (fun x4 : Int32 => some (x4, x2.2.2.2.1, x2.2.2.2.2.1, x2.2.2.2.2.2.1, x2.2.2.2.2.2.2.1, x2.2.2.2.2.2.2.2.1, x2.2.2.2.2.2.2.2.2)) (fun j5 => if 0 ≤ x2.1 then (if g1 = 0 then (j5 x2.1) else (if g1 = (1 : Int32) then (j5 x2.2.1) else (j5 x2.2.2.1))) else (j5 (-4 : Int32)))
noncomputable def mX8_bestExit_K144 (self7 : (Int32 × Int32 × Int32 × Int32 × nF × nF × nF × nF × Int32 × Int32) → Option (Int32 × nF × nF × nF × nF × Int32 × Int32)) (x6 : (Int32 × Int32 × Int32 × Int32 × nF × nF × nF × nF × Int32 × Int32)) (x9 : (Int32 × Int32 × Int32 × nF × nF × nF × nF × Int32 × Int32)) : Option (Int32 × nF × nF × nF × nF × Int32 × Int32) :=
  self7 (x9.1, x9.2.1, x9.2.2.1, x6.2.2.2.1 + (1 : Int32), x9.2.2.2.1, x9.2.2.2.2.1, x9.2.2.2.2.2.1, x9.2.2.2.2.2.2.1, x9.2.2.2.2.2.2.2.1, x9.2.2.2.2.2.2.2.2)
noncomputable def mX8_bestExit_L34 (F : Nat) (m_s : nF) (x6 : (Int32 × Int32 × Int32 × Int32 × nF × nF × nF × nF × Int32 × Int32)) (j10 : (Int32 × Int32 × Int32 × nF × nF × nF × nF × Int32 × Int32) → Option (Int32 × nF × nF × nF × nF × Int32 × Int32)) (self12 : (Int32 × Int32 × Int32 × Int32 × nF × nF × nF × nF × Int32 × Int32) → Option (Int32 × nF × nF × nF × nF × Int32 × Int32)) (x11 : (Int32 × Int32 × Int32 × Int32 × nF × nF × nF × nF × Int32 × Int32)) : Option (Int32 × nF × nF × nF × nF × Int32 × Int32) :=
  if x11.2.2.2.1 < 0 then (j10 (x11.1, x11.2.1, x11.2.2.1, x11.2.2.2.2.1, x11.2.2.2.2.2.1, x11.2.2.2.2.2.2.1, x11.2.2.2.2.2.2.2.1, x11.2.2.2.2.2.2.2.2.1, x11.2.2.2.2.2.2.2.2.2)) else ((mX8_mayBeExit m_s x6.2.2.2.1 x11.2.2.2.1).bind fun r13 => jn (fun x14 : (Int32 × Int32 × Int32 × nF × nF × nF × nF × Int32 × Int32) => self12 (x14.1, x14.2.1, x14.2.2.1, x11.2.2.2.1 + (-1 : Int32), x14.2.2.2.1, x14.2.2.2.2.1, x14.2.2.2.2.2.1, x14.2.2.2.2.2.2.1, x14.2.2.2.2.2.2.2.1, x14.2.2.2.2.2.2.2.2)) (fun j15 => if r13 = 0 then (j15 (x11.1, x11.2.1, x11.2.2.1, x11.2.2.2.2.1, x11.2.2.2.2.2.1, x11.2.2.2.2.2.2.1, x11.2.2.2.2.2.2.2.1, x11.2.2.2.2.2.2.2.2.1, x11.2.2.2.2.2.2.2.2.2)) else (gd (inb (2 : Int32) 114) ((mX8_areJoined F m_s x11.2.2.2.2.1 x11.2.2.2.2.2.1 (m_s (2 : Int32).toNatClampNeg) x6.2.2.2.1).bind fun r16 => if r16.1 = 0 then (j15 (x11.1, x11.2.1, x11.2.2.1, r16.2.1, r16.2.2, x11.2.2.2.2.2.2.1, x11.2.2.2.2.2.2.2.1, x11.2.2.2.2.2.2.2.2.1, x11.2.2.2.2.2.2.2.2.2)) else ((mX8_faultTo F m_s r16.2.1 r16.2.2 x11.2.2.2.2.2.2.1 x11.2.2.2.2.2.2.2.1 x11.2.2.2.2.2.2.2.2.1 x11.2.2.2.2.2.2.2.2.2 x6.2.2.2.1).bind fun r17 => jn (fun x18 : Int32 => jn (fun x20 : Int32 => jn (fun x22 : Int32 => jn (fun x24 : Int32 => j15 (x20, x22, x24, r17.2.1, r17.2.2.1, r17.2.2.2.1, r17.2.2.2.2.1, r17.2.2.2.2.2.1, r17.2.2.2.2.2.2)) (fun j25 => if x18 = 0 then (j25 x11.2.2.1) else (j25 r17.1))) (fun j23 => if x18 = 0 then (j23 x11.2.1) else (j23 x11.2.2.2.1))) (fun j21 => if x18 = 0 then (j21 x11.1) else (j21 x6.2.2.2.1))) (fun j19 => jn (fun x26 : Unit => j19 (1 : Int32)) (fun j27 => if r17.1 < x11.2.2.1 then (j27 ()) else (jn (fun x28 : Unit => j19 (0 : Int32)) (fun j29 => if x11.1 = x6.2.2.2.1 then (if r17.1 = x11.2.2.1 then (j27 ()) else (j29 ())) else (j29 ()))))))))))
noncomputable def mX8_bestExit_L22 (F : Nat) (m_s : nF) (j3 : (Int32 × Int32 × Int32 × nF × nF × nF × nF × Int32 × Int32) → Option (Int32 × nF × nF × nF × nF × Int32 × Int32)) (self7 : (Int32 × Int32 × Int32 × Int32 × nF × nF × nF × nF × Int32 × Int32) → Option (Int32 × nF × nF × nF × nF × Int32 × Int32)) (x6 : (Int32 × Int32 × Int32 × Int32 × nF × nF × nF × nF × Int32 × Int32)) : Option (Int32 × nF × nF × nF × nF × Int32 × Int32) :=
  (mX8_cells m_s).bind fun r8 => if r8 ≤ x6.2.2.2.1 then (j3 (x6.1, x6.2.1, x6.2.2.1, x6.2.2.2.2.1, x6.2.2.2.2.2.1, x6.2.2.2.2.2.2.1, x6.2.2.2.2.2.2.2.1, x6.2.2.2.2.2.2.2.2.1, x6.2.2.2.2.2.2.2.2.2)) else (jn (mX8_bestExit_K144 self7 x6) (fun j10 => lpr (mX8_bestExit_L34 F m_s x6 j10) F (x6.1, x6.2.1, x6.2.2.1, (3 : Int32), x6.2.2.2.2.1, x6.2.2.2.2.2.1, x6.2.2.2.2.2.2.1, x6.2.2.2.2.2.2.2.1, x6.2.2.2.2.2.2.2.2.1, x6.2.2.2.2.2.2.2.2.2)))
noncomputable def mX8_bestExit (F : Nat) (m_s : nF) (m_far : nF) (m_queue : nF) (m_isOn : nF) (m_steps : nF) (m_wayCells : Int32) (m_turns : Int32) (g1 : Int32) : Option (Int32 × nF × nF × nF × nF × Int32 × Int32) :=
  (mX8_in g1 (0 : Int32) (2 : Int32)).bind fun r1 => if r1 = 0 then (some ((-1 : Int32), m_far, m_queue, m_isOn, m_steps, m_wayCells, m_turns)) else (jn (mX8_bestExit_K150 g1) (fun j3 => lpr (mX8_bestExit_L22 F m_s j3) F ((-1 : Int32), (-1 : Int32), (1000000 : Int32), (0 : Int32), m_far, m_queue, m_isOn, m_steps, m_wayCells, m_turns)))

noncomputable def mX8_keep_K26 (F : Nat) (m_s : nF) (x1 : nF) : Option (Int32 × nF × Int32) :=
  gd (zb (1 : Int32)) ((mX8_passages F m_s).bind fun r3 => some (r3, x1, (1 : Int32)))
noncomputable def mX8_keep_L2 (m_s : nF) (j2 : nF → Option (Int32 × nF × Int32)) (self5 : (Int32 × nF) → Option (Int32 × nF × Int32)) (x4 : (Int32 × nF)) : Option (Int32 × nF × Int32) :=
  if (114 : Int32) ≤ x4.1 then (j2 x4.2) else (gd (inb x4.1 114) (gd (inb x4.1 114) (self5 (x4.1 + (1 : Int32), (upd x4.2 x4.1.toNatClampNeg (m_s x4.1.toNatClampNeg))))))
noncomputable def mX8_keep (F : Nat) (m_s : nF) (m_kept : nF) (m_isKept : Int32) : Option (Int32 × nF × Int32) :=
  jn (mX8_keep_K26 F m_s) (fun j2 => lpr (mX8_keep_L2 m_s j2) F ((0 : Int32), m_kept))

noncomputable def mX8_restore_K40 (F : Nat) (m_past : nF) (m_states : Int32) (r1 : nF) (x2 : nF) : Option (Int32 × nF × nF × nF × Int32) :=
  (mX8_passages F x2).bind fun r4 => (mX8_acted F x2 r1 m_past m_states r4).bind fun r5 => some (r5.1, r5.2.1, r1, r5.2.2.1, r5.2.2.2)
noncomputable def mX8_restore_L16 (m_kept : nF) (j3 : nF → Option (Int32 × nF × nF × nF × Int32)) (self7 : (Int32 × nF) → Option (Int32 × nF × nF × nF × Int32)) (x6 : (Int32 × nF)) : Option (Int32 × nF × nF × nF × Int32) :=
  if (114 : Int32) ≤ x6.1 then (j3 x6.2) else (gd (inb x6.1 114) (gd (inb x6.1 114) (self7 (x6.1 + (1 : Int32), (upd x6.2 x6.1.toNatClampNeg (m_kept x6.1.toNatClampNeg))))))
noncomputable def mX8_restore (F : Nat) (m_s : nF) (m_begun : nF) (m_kept : nF) (m_isKept : Int32) (m_past : nF) (m_states : Int32) : Option (Int32 × nF × nF × nF × Int32) :=
  (mX8_begins F m_s m_begun).bind fun r1 => if m_isKept = 0 then (some ((-2 : Int32), m_s, r1, m_past, m_states)) else (jn (mX8_restore_K40 F m_past m_states r1) (fun j3 => lpr (mX8_restore_L16 m_kept j3) F ((0 : Int32), m_s)))

noncomputable def mX8_undo_L22 (m_past : nF) (m_states : Int32) (self2 : (Int32 × nF) → Option (Int32 × nF × Int32)) (x1 : (Int32 × nF)) : Option (Int32 × nF × Int32) :=
  if (114 : Int32) ≤ x1.1 then (some (m_states - (1 : Int32), x1.2, m_states - (1 : Int32))) else (gd (inb (((114 : Int32) * (m_states - (1 : Int32))) + x1.1) 456) (gd (inb x1.1 114) (self2 (x1.1 + (1 : Int32), (upd x1.2 x1.1.toNatClampNeg (m_past (((114 : Int32) * (m_states - (1 : Int32))) + x1.1).toNatClampNeg))))))
noncomputable def mX8_undo (F : Nat) (m_s : nF) (m_past : nF) (m_states : Int32) : Option (Int32 × nF × Int32) :=
  if m_states = 0 then (some ((-2 : Int32), m_s, m_states)) else (lpr (mX8_undo_L22 m_past m_states) F ((0 : Int32), m_s))

noncomputable def mX8_type (m_text : nF) (m_length : Int32) (g1 : Int32) : Option (Int32 × nF × Int32) :=
  (mX8_in g1 (32 : Int32) (126 : Int32)).bind fun r1 => if r1 = 0 then (some ((-1 : Int32), m_text, m_length)) else (if m_length = (60 : Int32) then (some ((-3 : Int32), m_text, m_length)) else (gd (inb m_length 60) (some (m_length + (1 : Int32), (upd m_text m_length.toNatClampNeg g1), m_length + (1 : Int32)))))

noncomputable def mX8_clearText (m_length : Int32) : Option (Int32 × Int32) :=
  some (m_length, (0 : Int32))

noncomputable def mX8_breaks (m_place : Int32) (m_reason : Int32) (g1 : Int32) (g2 : Int32) : Option (Int32 × Int32 × Int32) :=
  gd (zb (0 : Int32)) (some ((0 : Int32), g1, g2))

noncomputable def mX8_isPicture_K172 (m_length : Int32) (m_place : Int32) (m_reason : Int32) (x1 : (Int32 × Int32 × Int32)) : Option (Int32 × Int32 × Int32 × Int32 × Int32) :=
  jn (fun x3 : Unit => (mX8_breaks m_place m_reason m_length (1 : Int32)).bind fun r5 => gd (zb r5.1) (some (r5.1, r5.2.1, r5.2.2, x1.2.1, x1.2.2))) (fun j4 => if x1.1 = 0 then (j4 ()) else (if x1.2.1 ≤ x1.1 then (jn (fun x6 : (Int32 × Int32 × Int32) => gd (zb x6.1) (some (x6.1, x6.2.1, x6.2.2, x1.2.1, x1.2.2))) (fun j7 => jn (fun x8 : (Int32 × Int32) => j7 ((1 : Int32), x8.1, x8.2)) (fun j9 => jn (fun x10 : Unit => (mX8_breaks m_place m_reason m_length (4 : Int32)).bind fun r12 => if r12.1 = 0 then (j7 ((0 : Int32), r12.2.1, r12.2.2)) else (j9 (r12.2.1, r12.2.2))) (fun j11 => if x1.2.1 ≤ (1 : Int32) then (j11 ()) else (if (1 : Int32) < x1.2.2 then (j9 (m_place, m_reason)) else (j11 ())))))) else (j4 ())))
noncomputable def mX8_isPicture_K159 (m_place : Int32) (m_reason : Int32) (x13 : (Int32 × Int32 × Int32)) : Option (Int32 × Int32 × Int32 × Int32 × Int32) :=
  (mX8_breaks m_place m_reason x13.1 (1 : Int32)).bind fun r15 => gd (zb r15.1) (some (r15.1, r15.2.1, r15.2.2, x13.2.1, x13.2.2))
noncomputable def mX8_isPicture_K137 (m_place : Int32) (m_reason : Int32) (x16 : (Int32 × Int32 × Int32)) : Option (Int32 × Int32 × Int32 × Int32 × Int32) :=
  (mX8_breaks m_place m_reason x16.1 (3 : Int32)).bind fun r18 => gd (zb r18.1) (some (r18.1, r18.2.1, r18.2.2, x16.2.1, x16.2.2))
noncomputable def mX8_isPicture_K77 (m_place : Int32) (m_reason : Int32) (x19 : (Int32 × Int32 × Int32)) : Option (Int32 × Int32 × Int32 × Int32 × Int32) :=
  (mX8_breaks m_place m_reason x19.1 (1 : Int32)).bind fun r21 => gd (zb r21.1) (some (r21.1, r21.2.1, r21.2.2, x19.2.1, x19.2.2))
noncomputable def mX8_isPicture_K54 (m_place : Int32) (m_reason : Int32) (x22 : (Int32 × Int32 × Int32)) : Option (Int32 × Int32 × Int32 × Int32 × Int32) :=
  (mX8_breaks m_place m_reason x22.1 (2 : Int32)).bind fun r24 => gd (zb r24.1) (some (r24.1, r24.2.1, r24.2.2, x22.2.1, x22.2.2))
noncomputable def mX8_isPicture_L14 (m_text : nF) (m_length : Int32) (j2 : (Int32 × Int32 × Int32) → Option (Int32 × Int32 × Int32 × Int32 × Int32)) (j14 : (Int32 × Int32 × Int32) → Option (Int32 × Int32 × Int32 × Int32 × Int32)) (j17 : (Int32 × Int32 × Int32) → Option (Int32 × Int32 × Int32 × Int32 × Int32)) (j20 : (Int32 × Int32 × Int32) → Option (Int32 × Int32 × Int32 × Int32 × Int32)) (j23 : (Int32 × Int32 × Int32) → Option (Int32 × Int32 × Int32 × Int32 × Int32)) (self26 : (Int32 × Int32 × Int32 × Int32) → Option (Int32 × Int32 × Int32 × Int32 × Int32)) (x25 : (Int32 × Int32 × Int32 × Int32)) : Option (Int32 × Int32 × Int32 × Int32 × Int32) :=
  if m_length ≤ x25.2.1 then (j2 (x25.1, x25.2.2.1, x25.2.2.2)) else (gd (inb x25.2.1 60) ((mX8_in (m_text x25.2.1.toNatClampNeg) (48 : Int32) (57 : Int32)).bind fun r27 => jn (fun x28 : (Int32 × Int32 × Int32) => self26 (x28.1, x25.2.1 + (1 : Int32), x28.2.1, x28.2.2)) (fun j29 => if r27 = 0 then (if (m_text x25.2.1.toNatClampNeg) = (47 : Int32) then (if x25.1 ≤ 0 then (j14 (x25.2.1, x25.2.2.1, x25.2.2.2)) else (if x25.1 = x25.2.2.1 then (if x25.2.2.2 = (6 : Int32) then (j17 (x25.2.1, x25.2.2.1, x25.2.2.2)) else (j29 ((0 : Int32), x25.2.2.1, x25.2.2.2 + (1 : Int32)))) else (j14 (x25.2.1, x25.2.2.1, x25.2.2.2)))) else (j14 (x25.2.1, x25.2.2.1, x25.2.2.2))) else (jn (fun x30 : Unit => jn (fun x32 : Unit => jn (fun x34 : Int32 => j29 (x25.1 + (1 : Int32), x34, x25.2.2.2)) (fun j35 => if x25.2.2.2 = (1 : Int32) then (j35 (x25.1 + (1 : Int32))) else (j35 x25.2.2.1))) (fun j33 => if x25.2.2.2 ≤ (1 : Int32) then (j33 ()) else (if x25.1 = x25.2.2.1 then (j20 (x25.2.1, x25.2.2.1, x25.2.2.2)) else (j33 ())))) (fun j31 => if x25.2.2.2 = (1 : Int32) then (if x25.1 = (6 : Int32) then (j23 (x25.2.1, x25.2.2.1, x25.2.2.2)) else (j31 ())) else (j31 ()))))))
noncomputable def mX8_isPicture (F : Nat) (m_text : nF) (m_length : Int32) (m_place : Int32) (m_reason : Int32) (m_wide : Int32) (m_high : Int32) : Option (Int32 × Int32 × Int32 × Int32 × Int32) :=
  jn (mX8_isPicture_K172 m_length m_place m_reason) (fun j2 => jn (mX8_isPicture_K159 m_place m_reason) (fun j14 => jn (mX8_isPicture_K137 m_place m_reason) (fun j17 => jn (mX8_isPicture_K77 m_place m_reason) (fun j20 => jn (mX8_isPicture_K54 m_place m_reason) (fun j23 => lpr (mX8_isPicture_L14 m_text m_length j2 j14 j17 j20 j23) F ((0 : Int32), (0 : Int32), (0 : Int32), (1 : Int32)))))))

noncomputable def mX8_fault (F : Nat) (m_text : nF) (m_length : Int32) (m_place : Int32) (m_reason : Int32) (m_wide : Int32) (m_high : Int32) (g1 : Int32) : Option (Int32 × Int32 × Int32 × Int32 × Int32) :=
  (mX8_in g1 (0 : Int32) (1 : Int32)).bind fun r1 => if r1 = 0 then (some ((-1 : Int32), m_place, m_reason, m_wide, m_high)) else ((mX8_isPicture F m_text m_length m_place m_reason m_wide m_high).bind fun r2 => if r2.1 = 0 then (jn (fun x3 : Int32 => some (x3, r2.2.1, r2.2.2.1, r2.2.2.2.1, r2.2.2.2.2)) (fun j4 => if g1 = 0 then (j4 r2.2.1) else (j4 r2.2.2.1))) else (some ((-4 : Int32), r2.2.1, r2.2.2.1, r2.2.2.2.1, r2.2.2.2.2)))

noncomputable def mX8_read_K67 (F : Nat) (m_past : nF) (m_states : Int32) (r1 : nF) (r2 : (Int32 × Int32 × Int32 × Int32 × Int32)) (x4 : nF) : Option (Int32 × nF × nF × nF × Int32 × Int32 × Int32 × Int32 × Int32) :=
  (mX8_cells x4).bind fun r6 => (mX8_acted F x4 r1 m_past m_states r6).bind fun r7 => some (r7.1, r7.2.1, r1, r7.2.2.1, r7.2.2.2, r2.2.1, r2.2.2.1, r2.2.2.2.1, r2.2.2.2.2)
noncomputable def mX8_read_L28 (m_text : nF) (r2 : (Int32 × Int32 × Int32 × Int32 × Int32)) (j5 : nF → Option (Int32 × nF × nF × nF × Int32 × Int32 × Int32 × Int32 × Int32)) (self9 : (Int32 × nF) → Option (Int32 × nF × nF × nF × Int32 × Int32 × Int32 × Int32 × Int32)) (x8 : (Int32 × nF)) : Option (Int32 × nF × nF × nF × Int32 × Int32 × Int32 × Int32 × Int32) :=
  (mX8_cells x8.2).bind fun r10 => if r10 ≤ x8.1 then (j5 x8.2) else (gd (nz r2.2.2.2.1) (gd (inb (x8.1 + (x8.1 / r2.2.2.2.1)) 60) (gd (inb ((6 : Int32) + x8.1) 114) (self9 (x8.1 + (1 : Int32), (upd x8.2 ((6 : Int32) + x8.1).toNatClampNeg ((m_text (x8.1 + (x8.1 / r2.2.2.2.1)).toNatClampNeg) - (48 : Int32))))))))
noncomputable def mX8_read (F : Nat) (m_s : nF) (m_begun : nF) (m_past : nF) (m_states : Int32) (m_text : nF) (m_length : Int32) (m_place : Int32) (m_reason : Int32) (m_wide : Int32) (m_high : Int32) : Option (Int32 × nF × nF × nF × Int32 × Int32 × Int32 × Int32 × Int32) :=
  (mX8_begins F m_s m_begun).bind fun r1 => (mX8_isPicture F m_text m_length m_place m_reason m_wide m_high).bind fun r2 => if r2.1 = 0 then (some ((-2 : Int32), m_s, r1, m_past, m_states, r2.2.1, r2.2.2.1, r2.2.2.2.1, r2.2.2.2.2)) else ((mX8_lightens F m_s r2.2.2.2.1 r2.2.2.2.2).bind fun r3 => jn (mX8_read_K67 F m_past m_states r1 r2) (fun j5 => lpr (mX8_read_L28 m_text r2 j5) F ((0 : Int32), r3)))
end
section
/-! GRAPHS: cells and places of passages; being joined; forests; rooted trees; ways -/
abbrev Op : Type := Nat → Bool
def pA (k : Nat) : Nat := k / 2
def pB (C k : Nat) : Nat := if k % 2 = 0 then k / 2 + 1 else k / 2 + C
def setE (op : Op) (k : Nat) (b : Bool) : Op := fun j => if j = k then b else op j
def adj (C : Nat) (op : Op) (x y : Nat) : Prop := ∃ k, op k = true ∧ ((pA k = x ∧ pB C k = y) ∨ (pA k = y ∧ pB C k = x))
def conn (C : Nat) (op : Op) (x y : Nat) : Prop := ∀ S : Nat → Prop, S x → (∀ u v, adj C op u v → S u → S v) → S y
def forest (C : Nat) (op : Op) : Prop := ∀ k, op k = true → ¬ conn C (setE op k false) (pA k) (pB C k)
section GR
variable {C : Nat} {op op' : Op} {x y z u v : Nat}
theorem adj_sy (h : adj C op x y) : adj C op y x := by
  obtain ⟨k, h1, h2⟩ := h
  exact ⟨k, h1, h2.symm⟩
theorem adj_mo (hm : ∀ k, op k = true → op' k = true) (h : adj C op x y) : adj C op' x y := by
  obtain ⟨k, h1, h2⟩ := h
  exact ⟨k, hm k h1, h2⟩
theorem adj_k {k : Nat} (h : op k = true) : adj C op (pA k) (pB C k) := ⟨k, h, Or.inl ⟨rfl, rfl⟩⟩
theorem conn_rf : conn C op x x := fun _ h _ => h
theorem conn_tr (h1 : conn C op x y) (h2 : conn C op y z) : conn C op x z := fun S hx hs => h2 S (h1 S hx hs) hs
theorem conn_ad (h : adj C op x y) : conn C op x y := fun _ hx hs => hs _ _ h hx
theorem conn_sy (h : conn C op x y) : conn C op y x := h (fun w => conn C op w x) conn_rf (fun _ _ huv hu => conn_tr (conn_ad (adj_sy huv)) hu)
theorem conn_mo (hm : ∀ k, op k = true → op' k = true) (h : conn C op x y) : conn C op' x y := h (fun w => conn C op' x w) conn_rf (fun _ _ huv hu => conn_tr hu (conn_ad (adj_mo hm huv)))
theorem setE_self {k : Nat} {b : Bool} : setE op k b k = b := by simp [setE]
theorem setE_ne {k j : Nat} {b : Bool} (h : j ≠ k) : setE op k b j = op j := by simp [setE, h]
theorem setE_id {k : Nat} {b : Bool} (h : op k = b) : setE op k b = op := by
  funext j
  by_cases hj : j = k
  · subst hj; rw [setE_self, h]
  · rw [setE_ne hj]
theorem setE_setE {k : Nat} {b d : Bool} : setE (setE op k b) k d = setE op k d := by
  funext j
  by_cases hj : j = k
  · subst hj; rw [setE_self, setE_self]
  · rw [setE_ne hj, setE_ne hj, setE_ne hj]
theorem setE_comm {k j : Nat} {b d : Bool} (h : j ≠ k) : setE (setE op k b) j d = setE (setE op j d) k b := by
  funext i
  by_cases hj : i = k
  · subst hj; rw [setE_ne (Ne.symm h), setE_self, setE_self]
  · by_cases hi : i = j
    · subst hi; rw [setE_self, setE_ne hj, setE_self]
    · rw [setE_ne hi, setE_ne hj, setE_ne hj, setE_ne hi]
theorem del_mo {k : Nat} : ∀ j, setE op k false j = true → op j = true := by
  intro j h
  by_cases hj : j = k
  · subst hj; rw [setE_self] at h; cases h
  · rwa [setE_ne hj] at h
theorem ins_mo {k : Nat} : ∀ j, op j = true → setE op k true j = true := by
  intro j h
  by_cases hj : j = k
  · subst hj; rw [setE_self]
  · rwa [setE_ne hj]
theorem conn_ins {k : Nat} (h : conn C (setE op k true) x y) : conn C op x y ∨ (conn C op x (pA k) ∧ conn C op (pB C k) y) ∨ (conn C op x (pB C k) ∧ conn C op (pA k) y) := by
  refine h (fun w => conn C op x w ∨ (conn C op x (pA k) ∧ conn C op (pB C k) w) ∨ (conn C op x (pB C k) ∧ conn C op (pA k) w)) (Or.inl conn_rf) ?_
  intro u v huv hu
  obtain ⟨j, h1, h2⟩ := huv
  by_cases hj : j = k
  · subst hj
    rcases h2 with ⟨rfl, rfl⟩ | ⟨rfl, rfl⟩
    · rcases hu with a | ⟨a, _⟩ | ⟨a, _⟩
      · exact Or.inr (Or.inl ⟨a, conn_rf⟩)
      · exact Or.inr (Or.inl ⟨a, conn_rf⟩)
      · exact Or.inl a
    · rcases hu with a | ⟨a, _⟩ | ⟨a, _⟩
      · exact Or.inr (Or.inr ⟨a, conn_rf⟩)
      · exact Or.inl a
      · exact Or.inr (Or.inr ⟨a, conn_rf⟩)
  · rw [setE_ne hj] at h1
    have ha : conn C op u v := conn_ad ⟨j, h1, h2⟩
    rcases hu with a | ⟨a, b⟩ | ⟨a, b⟩
    · exact Or.inl (conn_tr a ha)
    · exact Or.inr (Or.inl ⟨a, conn_tr b ha⟩)
    · exact Or.inr (Or.inr ⟨a, conn_tr b ha⟩)
theorem conn_ins_iff {k : Nat} : conn C (setE op k true) x y ↔ conn C op x y ∨ (conn C op x (pA k) ∧ conn C op (pB C k) y) ∨ (conn C op x (pB C k) ∧ conn C op (pA k) y) := by
  refine ⟨conn_ins, ?_⟩
  have hk : conn C (setE op k true) (pA k) (pB C k) := conn_ad (adj_k setE_self)
  have m : ∀ {a b : Nat}, conn C op a b → conn C (setE op k true) a b := fun h => conn_mo ins_mo h
  rintro (a | ⟨a, b⟩ | ⟨a, b⟩)
  · exact m a
  · exact conn_tr (m a) (conn_tr hk (m b))
  · exact conn_tr (m a) (conn_tr (conn_sy hk) (m b))
theorem forest_sub (hm : ∀ k, op k = true → op' k = true) (h : forest C op') : forest C op := by
  intro k hk hc
  refine h k (hm k hk) (conn_mo (fun j hj => ?_) hc)
  by_cases e : j = k
  · subst e; rw [setE_self] at hj; cases hj
  · rw [setE_ne e] at hj ⊢; exact hm j hj
theorem forest_del {k : Nat} (h : forest C op) : forest C (setE op k false) := forest_sub del_mo h
theorem forest_ins {k : Nat} (h : forest C op) (hn : ¬ conn C op (pA k) (pB C k)) : forest C (setE op k true) := by
  intro f hf hc
  by_cases e : f = k
  · subst e
    rw [setE_setE] at hc
    exact hn (conn_mo del_mo hc)
  · rw [setE_ne e] at hf
    rw [setE_comm e] at hc
    have hfe : conn C op (pA f) (pB C f) := conn_ad (adj_k hf)
    rcases conn_ins hc with a | ⟨a, b⟩ | ⟨a, b⟩
    · exact h f hf a
    · exact hn (conn_tr (conn_sy (conn_mo del_mo a)) (conn_tr hfe (conn_sy (conn_mo del_mo b))))
    · exact hn (conn_tr (conn_mo del_mo b) (conn_tr (conn_sy hfe) (conn_mo del_mo a)))
/-- how many places below n are open -/
def cnt (op : Op) : Nat → Nat
  | 0 => 0
  | n + 1 => cnt op n + (if op n = true then 1 else 0)
theorem cnt_del {k n : Nat} (hk : op k = true) : cnt (setE op k false) n + (if k < n then 1 else 0) = cnt op n := by
  induction n with
  | zero => simp [cnt]
  | succ n ih =>
    simp only [cnt]
    by_cases e : n = k
    · subst e
      rw [setE_self, hk]
      simp at ih ⊢
      omega
    · rw [setE_ne e]
      by_cases h : k < n
      · rw [if_pos h] at ih; rw [if_pos (show k < n + 1 by omega)]; omega
      · rw [if_neg h] at ih; rw [if_neg (show ¬ k < n + 1 by omega)]; omega
theorem cnt_ins {k n : Nat} (hk : op k = false) (hn : k < n) : cnt (setE op k true) n = cnt op n + 1 := by
  have h := cnt_del (op := setE op k true) (k := k) (n := n) setE_self
  rw [setE_setE, setE_id hk, if_pos hn] at h
  omega
theorem cnt_0 {n : Nat} (h : cnt op n = 0) : ∀ k, k < n → op k = false := by
  induction n with
  | zero => intro k hk; omega
  | succ n ih =>
    simp only [cnt] at h
    intro k hk
    by_cases e : k = n
    · subst e
      cases ho : op k with
      | false => rfl
      | true => rw [if_pos ho] at h; omega
    · exact ih (by omega) k (by omega)
theorem cnt_pos {n : Nat} (h : cnt op n ≠ 0) : ∃ k, k < n ∧ op k = true := by
  induction n with
  | zero => exact absurd rfl h
  | succ n ih =>
    simp only [cnt] at h
    by_cases e : op n = true
    · exact ⟨n, by omega, e⟩
    · rw [if_neg e] at h
      obtain ⟨k, a, b⟩ := ih (by omega)
      exact ⟨k, by omega, b⟩
/-- open places lie in the grid -/
def inG (N C : Nat) (op : Op) : Prop := ∀ k, op k = true → k < 2 * N ∧ pA k < N ∧ pB C k < N
theorem inG_del {N k : Nat} (h : inG N C op) : inG N C (setE op k false) := fun j hj => h j (del_mo j hj)
theorem inG_ins {N k : Nat} (h : inG N C op) (h1 : k < 2 * N) (h2 : pA k < N) (h3 : pB C k < N) : inG N C (setE op k true) := by
  intro j hj
  by_cases e : j = k
  · subst e; exact ⟨h1, h2, h3⟩
  · rw [setE_ne e] at hj; exact h j hj
theorem adj_lt {N : Nat} (hG : inG N C op) (h : adj C op x y) : x < N ∧ y < N := by
  obtain ⟨k, h1, h2⟩ := h
  obtain ⟨-, a, b⟩ := hG k h1
  rcases h2 with ⟨rfl, rfl⟩ | ⟨rfl, rfl⟩
  · exact ⟨a, b⟩
  · exact ⟨b, a⟩
theorem conn_lt {N : Nat} (hG : inG N C op) (h : conn C op x y) (hx : x < N) : y < N := h (fun w => w < N) hx (fun _ _ huv _ => (adj_lt hG huv).2)
/-- as many parts as cells less passages -/
theorem reps (N : Nat) : ∀ (m : Nat) (op : Op), forest C op → inG N C op → cnt op (2 * N) = m → ∃ l : List Nat, l.Nodup ∧ l.length + m = N ∧ (∀ r ∈ l, r < N) ∧ (∀ x, x < N → ∃ r ∈ l, conn C op x r) ∧ (∀ r ∈ l, ∀ s ∈ l, conn C op r s → r = s) := by
  intro m
  induction m with
  | zero =>
    intro op hF hG hc
    refine ⟨List.range N, List.nodup_range, by simp, fun r hr => List.mem_range.mp hr, fun x hx => ⟨x, List.mem_range.mpr hx, conn_rf⟩, fun r hr s hs h => ?_⟩
    have hno : ∀ u v, ¬ adj C op u v := by
      rintro u v ⟨k, h1, -⟩
      rw [cnt_0 hc k (hG k h1).1] at h1
      cases h1
    exact h (fun w => r = w) rfl (fun u v huv _ => absurd huv (hno u v))
  | succ m ih =>
    intro op hF hG hc
    obtain ⟨k, hk, ho⟩ := cnt_pos (op := op) (n := 2 * N) (by omega)
    have h1 := cnt_del (n := 2 * N) ho
    rw [if_pos hk] at h1
    obtain ⟨l, l1, l2, l3, l4, l5⟩ := ih (setE op k false) (forest_del hF) (inG_del hG) (by omega)
    obtain ⟨-, hA, hB⟩ := hG k ho
    obtain ⟨ra, ra1, ra2⟩ := l4 _ hA
    obtain ⟨rb, rb1, rb2⟩ := l4 _ hB
    have hab : ra ≠ rb := by
      rintro rfl
      exact hF k ho (conn_tr ra2 (conn_sy rb2))
    have hop : setE (setE op k false) k true = op := by rw [setE_setE, setE_id ho]
    have hke : conn C op (pA k) (pB C k) := conn_ad (adj_k ho)
    refine ⟨l.erase rb, l1.erase rb, by rw [List.length_erase_of_mem rb1]; have := List.length_pos_of_mem rb1; omega, fun r hr => l3 r (List.mem_of_mem_erase hr), fun x hx => ?_, fun r hr s hs h => ?_⟩
    · obtain ⟨r, r1, r2⟩ := l4 x hx
      by_cases e : r = rb
      · subst e
        refine ⟨ra, (List.mem_erase_of_ne hab).mpr ra1, ?_⟩
        exact conn_tr (conn_mo del_mo r2) (conn_tr (conn_sy (conn_mo del_mo rb2)) (conn_tr (conn_sy hke) (conn_mo del_mo ra2)))
      · exact ⟨r, (List.mem_erase_of_ne e).mpr r1, conn_mo del_mo r2⟩
    · have hr' := List.mem_of_mem_erase hr
      have hs' := List.mem_of_mem_erase hs
      have hrb : r ≠ rb := fun e => by subst e; exact (List.Nodup.not_mem_erase l1) hr
      have hsb : s ≠ rb := fun e => by subst e; exact (List.Nodup.not_mem_erase l1) hs
      rw [← hop] at h
      rcases conn_ins h with a | ⟨a, b⟩ | ⟨a, b⟩
      · exact l5 r hr' s hs' a
      · exact absurd (l5 s hs' rb rb1 (conn_tr (conn_sy b) rb2)) hsb
      · exact absurd (l5 r hr' rb rb1 (conn_tr a rb2)) hrb
theorem whole_conn {N : Nat} (hF : forest C op) (hG : inG N C op) (hc : cnt op (2 * N) + 1 = N) (hx : x < N) (hy : y < N) : conn C op x y := by
  obtain ⟨l, -, l2, -, l4, -⟩ := reps N _ op hF hG rfl
  have h1 : l.length = 1 := by omega
  obtain ⟨r, r1, r2⟩ := l4 x hx
  obtain ⟨s, s1, s2⟩ := l4 y hy
  match l, h1 with
  | [t], _ =>
    rw [List.mem_singleton] at r1 s1
    subst r1; subst s1
    exact conn_tr r2 (conn_sy s2)
theorem conn_whole {N : Nat} (hF : forest C op) (hG : inG N C op) (hN : 0 < N) (h : ∀ x y, x < N → y < N → conn C op x y) : cnt op (2 * N) + 1 = N := by
  obtain ⟨l, l1, l2, l3, l4, l5⟩ := reps N _ op hF hG rfl
  obtain ⟨r, r1, -⟩ := l4 0 hN
  have : l.length = 1 := by
    match l, l1, l3, l5, r1 with
    | [t], _, _, _, _ => rfl
    | a :: b :: t, l1, l3, l5, _ =>
      have := l5 a (by simp) b (by simp) (h a b (l3 a (by simp)) (l3 b (by simp)))
      subst this
      simp at l1
  omega
theorem cnt_le {N : Nat} (hF : forest C op) (hG : inG N C op) (hN : 0 < N) : cnt op (2 * N) + 1 ≤ N := by
  obtain ⟨l, -, l2, -, l4, -⟩ := reps N _ op hF hG rfl
  obtain ⟨r, r1, -⟩ := l4 0 hN
  have := List.length_pos_of_mem r1
  omega
/-- two places with the same ends are one -/
theorem place_eq (hC : 2 ≤ C) {j k : Nat} (h : (pA j = pA k ∧ pB C j = pB C k) ∨ (pA j = pB C k ∧ pB C j = pA k)) : j = k := by
  unfold pA pB at h
  split at h <;> split at h <;> omega
/-- a tree with its root: what a search from r finds -/
def RT (C : Nat) (op : Op) (r : Nat) (V : Nat → Prop) (len prev : Nat → Nat) : Prop :=
  V r ∧ len r = 0 ∧ (∀ c, V c → c ≠ r → V (prev c) ∧ adj C op (prev c) c ∧ len c = len (prev c) + 1) ∧ ∀ c c', V c → adj C op c c' → V c'
variable {r c c' : Nat} {V : Nat → Prop} {len prev : Nat → Nat}
theorem rt_conn (h : RT C op r V len prev) : V c ↔ conn C op r c := by
  constructor
  · have key : ∀ n c, V c → len c = n → conn C op r c := by
      intro n
      induction n with
      | zero =>
        intro c hc hn
        by_cases e : c = r
        · subst e; exact conn_rf
        · obtain ⟨-, -, h3⟩ := h.2.2.1 c hc e
          omega
      | succ n ih =>
        intro c hc hn
        by_cases e : c = r
        · subst e; exact conn_rf
        · obtain ⟨h1, h2, h3⟩ := h.2.2.1 c hc e
          exact conn_tr (ih (prev c) h1 (by omega)) (conn_ad h2)
    exact fun hc => key _ c hc rfl
  · intro hc
    exact hc V h.1 (fun u v huv hu => h.2.2.2 u v hu huv)
/-- in a forest each open place between found cells leads to the root or from it -/
theorem rt_edge (hC : 2 ≤ C) (hF : forest C op) (h : RT C op r V len prev) (hc : V c) (ha : adj C op c c') : (c ≠ r ∧ prev c = c') ∨ (c' ≠ r ∧ prev c' = c) := by
  apply Classical.byContradiction
  intro hn
  obtain ⟨k, hk, he⟩ := ha
  have hc' : V c' := h.2.2.2 c c' hc ⟨k, hk, he⟩
  have key : ∀ n x, V x → len x = n → conn C (setE op k false) r x := by
    intro n
    induction n with
    | zero =>
      intro x hx hn2
      by_cases e : x = r
      · subst e; exact conn_rf
      · obtain ⟨-, -, h3⟩ := h.2.2.1 x hx e
        omega
    | succ n ih =>
      intro x hx hn2
      by_cases e : x = r
      · subst e; exact conn_rf
      · obtain ⟨h1, ⟨j, hj, hj2⟩, h3⟩ := h.2.2.1 x hx e
        refine conn_tr (ih (prev x) h1 (by omega)) (conn_ad ⟨j, ?_, hj2⟩)
        by_cases ej : j = k
        · subst ej
          exfalso
          apply hn
          rcases he with ⟨a1, a2⟩ | ⟨a1, a2⟩ <;> rcases hj2 with ⟨b1, b2⟩ | ⟨b1, b2⟩
          · exact Or.inr ⟨by rw [← a2, b2]; exact e, by rw [← a2, b2, ← b1, a1]⟩
          · exact Or.inl ⟨by rw [← a1, b1]; exact e, by rw [← a1, b1, ← b2, a2]⟩
          · exact Or.inl ⟨by rw [← a2, b2]; exact e, by rw [← a2, b2, ← b1, a1]⟩
          · exact Or.inr ⟨by rw [← a1, b1]; exact e, by rw [← a1, b1, ← b2, a2]⟩
        · rw [setE_ne ej]; exact hj
  have h1 := key _ c hc rfl
  have h2 := key _ c' hc' rfl
  rcases he with ⟨a1, a2⟩ | ⟨a1, a2⟩
  · exact hF k hk (by rw [a1, a2]; exact conn_tr (conn_sy h1) h2)
  · exact hF k hk (by rw [a1, a2]; exact conn_tr (conn_sy h2) h1)
/-- the way to the root -/
def pth (prev : Nat → Nat) : Nat → Nat → List Nat
  | 0, c => [c]
  | n + 1, c => c :: pth prev n (prev c)
theorem pth_len {n : Nat} : ∀ c, (pth prev n c).length = n + 1 := by
  induction n with
  | zero => intro c; rfl
  | succ n ih => intro c; simp [pth, ih]
theorem pth_head {n : Nat} : (pth prev n c).head? = some c := by cases n <;> rfl
def Wk (C : Nat) (op : Op) : List Nat → Prop
  | x :: y :: l => adj C op x y ∧ Wk C op (y :: l)
  | _ => True
theorem wk_tail {l : List Nat} (h : Wk C op (x :: l)) : Wk C op l := by
  cases l with
  | nil => trivial
  | cons y l => exact h.2
theorem wk_mo (hm : ∀ k, op k = true → op' k = true) : ∀ {l : List Nat}, Wk C op l → Wk C op' l
  | [], _ => trivial
  | [_], _ => trivial
  | _ :: _ :: _, h => ⟨adj_mo hm h.1, wk_mo hm h.2⟩
theorem wk_app : ∀ {l1 l2 : List Nat}, Wk C op l1 → Wk C op l2 → (∀ a b, l1.getLast? = some a → l2.head? = some b → adj C op a b) → Wk C op (l1 ++ l2)
  | [], _, _, h2, _ => h2
  | [a], [], _, _, _ => trivial
  | [a], b :: l2, _, h2, h3 => ⟨h3 a b rfl rfl, h2⟩
  | a :: b :: l1, l2, h1, h2, h3 => ⟨h1.1, wk_app h1.2 h2 (fun x y hx hy => h3 x y (by rw [List.getLast?_cons_cons]; exact hx) hy)⟩
theorem wk_rev : ∀ {l : List Nat}, Wk C op l → Wk C op l.reverse
  | [], _ => trivial
  | [_], _ => trivial
  | a :: b :: l, h => by
    rw [List.reverse_cons]
    refine wk_app (wk_rev h.2) trivial (fun x y hx hy => ?_)
    rw [List.reverse_cons, List.getLast?_append] at hx
    simp at hx hy
    subst hx; subst hy
    exact adj_sy h.1
theorem wk_conn : ∀ {l : List Nat} {c d : Nat}, Wk C op l → l.head? = some c → d ∈ l → conn C op c d
  | [], _, _, _, h, _ => by cases h
  | [a], c, d, _, h, hd => by
    cases h
    rw [List.mem_singleton] at hd
    subst hd
    exact conn_rf
  | a :: b :: l, c, d, h, hh, hd => by
    cases hh
    rcases List.mem_cons.mp hd with e | e
    · subst e; exact conn_rf
    · exact conn_tr (conn_ad h.1) (wk_conn (c := b) h.2 rfl e)
theorem pth_wk (h : RT C op r V len prev) : ∀ n c, V c → len c = n → Wk C op (pth prev n c) := by
  intro n
  induction n with
  | zero => intro c _ _; trivial
  | succ n ih =>
    intro c hc hn
    have e : c ≠ r := by rintro rfl; rw [h.2.1] at hn; cases hn
    obtain ⟨h1, h2, h3⟩ := h.2.2.1 c hc e
    have h4 := ih (prev c) h1 (by omega)
    cases n with
    | zero => exact ⟨adj_sy h2, trivial⟩
    | succ n => exact ⟨adj_sy h2, h4⟩
theorem pth_last (h : RT C op r V len prev) : ∀ n c, V c → len c = n → (pth prev n c).getLast? = some r := by
  intro n
  induction n with
  | zero =>
    intro c hc hn
    by_cases e : c = r
    · subst e; rfl
    · have := (h.2.2.1 c hc e).2.2; omega
  | succ n ih =>
    intro c hc hn
    have e : c ≠ r := by rintro rfl; rw [h.2.1] at hn; cases hn
    obtain ⟨h1, h2, h3⟩ := h.2.2.1 c hc e
    have h4 := ih (prev c) h1 (by omega)
    show (c :: pth prev n (prev c)).getLast? = some r
    rw [List.getLast?_cons, h4]
    rfl
theorem pth_mem (h : RT C op r V len prev) : ∀ n c, V c → len c = n → ∀ d ∈ pth prev n c, V d ∧ len d ≤ n ∧ (d ≠ c → len d < n) := by
  intro n
  induction n with
  | zero =>
    intro c hc hn d hd
    simp only [pth, List.mem_singleton] at hd
    subst hd
    exact ⟨hc, by omega, fun e => absurd rfl e⟩
  | succ n ih =>
    intro c hc hn d hd
    have e : c ≠ r := by rintro rfl; rw [h.2.1] at hn; cases hn
    obtain ⟨h1, h2, h3⟩ := h.2.2.1 c hc e
    rcases List.mem_cons.mp hd with q | q
    · subst q; exact ⟨hc, by omega, fun e => absurd rfl e⟩
    · obtain ⟨a, b, _⟩ := ih (prev c) h1 (by omega) d q
      exact ⟨a, by omega, fun _ => by omega⟩
theorem pth_nd (h : RT C op r V len prev) : ∀ n c, V c → len c = n → (pth prev n c).Nodup := by
  intro n
  induction n with
  | zero => intro c _ _; simp [pth]
  | succ n ih =>
    intro c hc hn
    have e : c ≠ r := by rintro rfl; rw [h.2.1] at hn; cases hn
    obtain ⟨h1, h2, h3⟩ := h.2.2.1 c hc e
    refine List.nodup_cons.mpr ⟨fun hm => ?_, ih (prev c) h1 (by omega)⟩
    have := (pth_mem h n (prev c) h1 (by omega) c hm).2.1
    omega
/-- there is one way without a repetition -/
theorem way_uniq (hC : 2 ≤ C) (hF : forest C op) (h : RT C op r V len prev) : ∀ (l : List Nat) (c : Nat), Wk C op l → l.Nodup → l.head? = some c → V c → l.getLast? = some r → l = pth prev (len c) c := by
  intro l
  induction l with
  | nil => intro c _ _ hh; cases hh
  | cons a t ih =>
    intro c hw hn hh hc hl
    obtain rfl : a = c := by simpa using hh
    cases t with
    | nil =>
      obtain rfl : a = r := by simpa using hl
      rw [h.2.1]
      rfl
    | cons y t =>
      obtain ⟨n1, n2⟩ := List.nodup_cons.mp hn
      have hy : V y := h.2.2.2 _ _ hc hw.1
      have hi := ih y hw.2 n2 rfl hy (by rw [← hl, List.getLast?_cons_cons])
      rcases rt_edge hC hF h hc hw.1 with ⟨e, hp⟩ | ⟨e, hp⟩
      · have h3 := (h.2.2.1 _ hc e).2.2
        rw [h3, hp]
        show _ = _ :: pth prev (len y) (prev _)
        rw [hp, ← hi]
      · have h3 := (h.2.2.1 _ hy e).2.2
        rw [h3] at hi
        have hi : y :: t = y :: pth prev (len (prev y)) (prev y) := hi
        exfalso
        apply n1
        rw [hi]
        refine List.mem_cons_of_mem _ ?_
        rw [hp]
        cases len a <;> simp [pth]
/-- .. and no shorter one -/
theorem way_short (hC : 2 ≤ C) (hF : forest C op) (h : RT C op r V len prev) : ∀ (l : List Nat) (c : Nat), Wk C op l → l.length ≤ len c + 1 → l.head? = some c → V c → l.getLast? = some r → l = pth prev (len c) c := by
  intro l
  induction l with
  | nil => intro c _ _ hh; cases hh
  | cons a t ih =>
    intro c hw hn hh hc hl
    obtain rfl : a = c := by simpa using hh
    cases t with
    | nil =>
      obtain rfl : a = r := by simpa using hl
      rw [h.2.1]
      rfl
    | cons y t =>
      have hy : V y := h.2.2.2 _ _ hc hw.1
      have hll : (y :: t).getLast? = some r := by rw [← hl, List.getLast?_cons_cons]
      rcases rt_edge hC hF h hc hw.1 with ⟨e, hp⟩ | ⟨e, hp⟩
      · have h3 := (h.2.2.1 _ hc e).2.2
        have hi := ih y hw.2 (by rw [hp] at h3; simp only [List.length_cons] at hn ⊢; omega) rfl hy hll
        rw [h3, hp]
        show _ = _ :: pth prev (len y) (prev _)
        rw [hp, ← hi]
      · have h3 := (h.2.2.1 _ hy e).2.2
        rw [hp] at h3
        have hi := ih y hw.2 (by simp only [List.length_cons] at hn ⊢; omega) rfl hy hll
        have h4 := congrArg List.length hi
        rw [pth_len] at h4
        simp only [List.length_cons] at hn h4
        omega
/-- the next cell of the way is the only one that is nearer -/
theorem rt_nearer (hC : 2 ≤ C) (hF : forest C op) (h : RT C op r V len prev) (hc : V c) (ha : adj C op c c') (hl : len c' + 1 = len c) : c ≠ r ∧ prev c = c' := by
  rcases rt_edge hC hF h hc ha with e | ⟨e, hp⟩
  · exact e
  · have h3 := (h.2.2.1 _ (h.2.2.2 _ _ hc ha) e).2.2
    rw [hp] at h3
    omega
/-- two searches from one root agree -/
theorem rt_same {V2 : Nat → Prop} {len2 prev2 : Nat → Nat} (hC : 2 ≤ C) (hF : forest C op) (h : RT C op r V len prev) (h2 : RT C op r V2 len2 prev2) (hc : V c) : V2 c ∧ len c = len2 c ∧ pth prev (len c) c = pth prev2 (len2 c) c := by
  have hv : V2 c := (rt_conn h2).mpr ((rt_conn h).mp hc)
  have e := way_uniq hC hF h2 _ c (pth_wk h _ c hc rfl) (pth_nd h _ c hc rfl) pth_head hv (pth_last h _ c hc rfl)
  have e2 := congrArg List.length e
  rw [pth_len, pth_len] at e2
  exact ⟨hv, by omega, e⟩
theorem nd_rev {l : List Nat} (h : l.Nodup) : l.reverse.Nodup := by
  induction l with
  | nil => simp
  | cons a l ih =>
    obtain ⟨h1, h2⟩ := List.nodup_cons.mp h
    rw [List.reverse_cons, List.nodup_append]
    refine ⟨ih h2, by simp, fun x hx y hy => ?_⟩
    rw [List.mem_singleton] at hy
    rintro rfl
    subst hy
    exact h1 (List.mem_reverse.mp hx)
/-- two searches from two roots: the way back -/
theorem rt_back {x : Nat} {V2 : Nat → Prop} {len2 prev2 : Nat → Nat} (hC : 2 ≤ C) (hF : forest C op) (h : RT C op r V len prev) (h2 : RT C op x V2 len2 prev2) (hc : V x) : V2 r ∧ len x = len2 r ∧ pth prev2 (len2 r) r = (pth prev (len x) x).reverse := by
  have hv : V2 r := (rt_conn h2).mpr (conn_sy ((rt_conn h).mp hc))
  have e := way_uniq hC hF h2 (pth prev (len x) x).reverse r (wk_rev (pth_wk h _ x hc rfl)) (nd_rev (pth_nd h _ x hc rfl)) (by rw [List.head?_reverse]; exact pth_last h _ x hc rfl) hv (by rw [List.getLast?_reverse]; exact pth_head)
  have e2 := congrArg List.length e
  rw [List.length_reverse, pth_len, pth_len] at e2
  exact ⟨hv, by omega, e.symm⟩
/-- joined cells have a way without a repetition -/
theorem conn_way (h : conn C op x y) : ∃ l : List Nat, Wk C op l ∧ l.Nodup ∧ l.head? = some x ∧ l.getLast? = some y := by
  refine h (fun w => ∃ l : List Nat, Wk C op l ∧ l.Nodup ∧ l.head? = some x ∧ l.getLast? = some w) ⟨[x], trivial, by simp, rfl, rfl⟩ ?_
  rintro u v huv ⟨l, h1, h2, h3, h4⟩
  by_cases hv : v ∈ l
  · obtain ⟨s, t, rfl⟩ := List.append_of_mem hv
    refine ⟨s ++ [v], ?_, ?_, ?_, by simp⟩
    · have key : ∀ (s t : List Nat), Wk C op (s ++ v :: t) → Wk C op (s ++ [v]) := by
        intro s t
        induction s with
        | nil => intro _; trivial
        | cons a s ih =>
          intro hw
          cases s with
          | nil => exact ⟨hw.1, trivial⟩
          | cons b s => exact ⟨hw.1, ih hw.2⟩
      exact key s t h1
    · have : (s ++ [v] ++ t).Nodup := by simpa using h2
      exact (List.nodup_append.mp this).1
    · cases s with
      | nil => simpa using h3
      | cons a s => simpa using h3
  · refine ⟨l ++ [v], wk_app h1 trivial (fun a b ha hb => ?_), ?_, ?_, by simp⟩
    · rw [h4] at ha
      cases ha
      simp at hb
      subst hb
      exact huv
    · rw [List.nodup_append]
      refine ⟨h2, by simp, fun a ha b hb => ?_⟩
      simp at hb
      subst hb
      rintro rfl
      exact hv ha
    · cases l with
      | nil => cases h3
      | cons a l => simpa using h3
/-- what the way to the root of a smaller graph is -/
theorem way_sub (hC : 2 ≤ C) (hF : forest C op) (h : RT C op r V len prev) (hm : ∀ k, op' k = true → op k = true) (hc : conn C op' r c) : Wk C op' (pth prev (len c) c) := by
  obtain ⟨l, h1, h2, h3, h4⟩ := conn_way (conn_sy hc)
  have hv : V c := (rt_conn h).mpr (conn_mo hm hc)
  rw [← way_uniq hC hF h l c (wk_mo hm h1) h2 h3 hv h4]
  exact h1
end GR
end
section
/-! TREES, second part: sides of a cut, exchanges, sums along ways -/
section TR
variable {C : Nat} {op op' : Op} {r c c' x y u v : Nat} {V : Nat → Prop} {len prev : Nat → Nat}
theorem pth_split (h : RT C op r V len prev) : ∀ n c, V c → len c = n → ∀ d ∈ pth prev n c, d ≠ r → ∃ s t, pth prev n c = s ++ d :: prev d :: t := by
  intro n
  induction n with
  | zero =>
    intro c hc hn d hd hr
    simp only [pth, List.mem_singleton] at hd
    subst hd
    have := (h.2.2.1 d hc hr).2.2
    omega
  | succ n ih =>
    intro c hc hn d hd hr
    have e : c ≠ r := by rintro rfl; rw [h.2.1] at hn; cases hn
    obtain ⟨h1, h2, h3⟩ := h.2.2.1 c hc e
    by_cases q : d = c
    · subst q
      refine ⟨[], (pth prev n (prev d)).tail, ?_⟩
      cases n <;> rfl
    · rcases List.mem_cons.mp hd with z | z
      · exact absurd z q
      · obtain ⟨s, t, hst⟩ := ih (prev c) h1 (by omega) d z hr
        exact ⟨c :: s, t, by show c :: pth prev n (prev c) = _; rw [hst]; rfl⟩
theorem wk_split {t : List Nat} {a b : Nat} : ∀ {s : List Nat}, Wk C op (s ++ a :: b :: t) → adj C op a b
  | [], h => h.1
  | [_], h => h.2.1
  | _ :: y :: s, h => wk_split (s := y :: s) h.2
/-- the side of a cut that is away from the root: the cells whose way goes through the deeper end -/
theorem cut_side (hC : 2 ≤ C) (hF : forest C op) (h : RT C op r V len prev) {k f : Nat} (hk : op k = true) (hf : f ≠ r) (hV : V f) (he : (pA k = f ∧ pB C k = prev f) ∨ (pA k = prev f ∧ pB C k = f)) (hc : V c) : f ∈ pth prev (len c) c ↔ ¬ conn C (setE op k false) r c := by
  constructor
  · intro hm hcn
    have hw := way_sub hC hF h (op' := setE op k false) del_mo hcn
    obtain ⟨s, t, hst⟩ := pth_split h _ c hc rfl f hm hf
    rw [hst] at hw
    obtain ⟨j, hj, hj2⟩ := wk_split (s := s) hw
    have : j = k := place_eq hC (by
      rcases hj2 with ⟨a, b⟩ | ⟨a, b⟩ <;> rcases he with ⟨d, e⟩ | ⟨d, e⟩ <;> simp [a, b, d, e])
    subst this
    rw [setE_self] at hj
    cases hj
  · intro hn
    apply Classical.byContradiction
    intro hm
    apply hn
    have key : ∀ n c, V c → len c = n → f ∉ pth prev n c → Wk C (setE op k false) (pth prev n c) := by
      intro n
      induction n with
      | zero => intro c _ _ _; trivial
      | succ n ih =>
        intro c hc hn2 hm
        have e : c ≠ r := by rintro rfl; rw [h.2.1] at hn2; cases hn2
        obtain ⟨h1, h2, h3⟩ := h.2.2.1 c hc e
        have hcf : c ≠ f := fun e => hm (by subst e; exact List.mem_cons_self)
        have h4 := ih (prev c) h1 (by omega) (fun q => hm (List.mem_cons_of_mem _ q))
        have ha : adj C (setE op k false) c (prev c) := by
          obtain ⟨j, hj, hj2⟩ := h2
          refine ⟨j, ?_, hj2.symm⟩
          by_cases ej : j = k
          · subst ej
            exfalso
            have hfl := (h.2.2.1 f hV hf).2.2
            rcases hj2 with ⟨a1, a2⟩ | ⟨a1, a2⟩ <;> rcases he with ⟨b1, b2⟩ | ⟨b1, b2⟩
            · have e1 : prev c = f := by rw [← a1, b1]
              have e2 : c = prev f := by rw [← a2, b2]
              rw [← e2, h3, e1] at hfl; omega
            · exact hcf (by rw [← a2, b2])
            · exact hcf (by rw [← a1, b1])
            · have e1 : prev c = f := by rw [← a2, b2]
              have e2 : c = prev f := by rw [← a1, b1]
              rw [← e2, h3, e1] at hfl; omega
          · rw [setE_ne ej]; exact hj
        cases n with
        | zero => exact ⟨ha, trivial⟩
        | succ n => exact ⟨ha, h4⟩
    have hw := key _ c hc rfl hm
    exact conn_sy (wk_conn hw pth_head (List.mem_of_getLast? (pth_last h _ c hc rfl)))
/-- the two sides of a cut of a whole maze -/
theorem two_sides {k : Nat} (hF : forest C op) (hk : op k = true) (hx : conn C op r x) (hy : conn C op r y) (nx : ¬ conn C (setE op k false) r x) (ny : ¬ conn C (setE op k false) r y) : conn C (setE op k false) x y := by
  have hop : setE (setE op k false) k true = op := by rw [setE_setE, setE_id hk]
  rw [← hop] at hx hy
  rcases conn_ins hx with a | ⟨a, b⟩ | ⟨a, b⟩ <;> rcases conn_ins hy with d | ⟨d, e⟩ | ⟨d, e⟩
  · exact absurd a nx
  · exact absurd a nx
  · exact absurd a nx
  · exact absurd d ny
  · exact conn_tr (conn_sy b) e
  · exact absurd (conn_tr (conn_sy a) d) (hF k hk)
  · exact absurd d ny
  · exact absurd (conn_tr (conn_sy d) a) (hF k hk)
  · exact conn_tr (conn_sy b) e
/-- the way from r to x behind an exchange that goes over the new passage (n, f) -/
theorem way_exch (hC : 2 ≤ C) (hF : forest C op) {k j n f : Nat} {V2 V3 : Nat → Prop} {len2 prev2 len3 prev3 : Nat → Nat} (h : RT C op r V len prev) (h2 : RT C op x V2 len2 prev2) (h3 : RT C (setE (setE op k false) j true) x V3 len3 prev3)
    (he : (pA j = n ∧ pB C j = f) ∨ (pA j = f ∧ pB C j = n)) (hn : conn C (setE op k false) r n) (hf : conn C (setE op k false) x f) (hnx : ¬ conn C (setE op k false) r x) : V3 r ∧ pth prev3 (len3 r) r = (pth prev (len n) n).reverse ++ pth prev2 (len2 f) f := by
  have hF' : forest C (setE (setE op k false) j true) := forest_ins (forest_del hF) (by
    rcases he with ⟨a, b⟩ | ⟨a, b⟩ <;> rw [a, b] <;> intro q
    · exact hnx (conn_tr hn (conn_tr q (conn_sy hf)))
    · exact hnx (conn_tr hn (conn_tr (conn_sy q) (conn_sy hf))))
  have hVn : V n := (rt_conn h).mpr (conn_mo del_mo hn)
  have hVf : V2 f := (rt_conn h2).mpr (conn_mo del_mo hf)
  have w1 := way_sub hC hF h (op' := setE op k false) del_mo hn
  have w2 := way_sub hC hF h2 (op' := setE op k false) del_mo hf
  have hl1 := pth_last h _ n hVn rfl
  have hl2 := pth_last h2 _ f hVf rfl
  have hw : Wk C (setE (setE op k false) j true) ((pth prev (len n) n).reverse ++ pth prev2 (len2 f) f) := by
    refine wk_app (wk_mo ins_mo (wk_rev w1)) (wk_mo ins_mo w2) (fun a b ha hb => ?_)
    rw [List.getLast?_reverse, pth_head] at ha
    rw [pth_head] at hb
    cases ha; cases hb
    exact ⟨j, setE_self, he⟩
  have hnd : ((pth prev (len n) n).reverse ++ pth prev2 (len2 f) f).Nodup := by
    rw [List.nodup_append]
    refine ⟨nd_rev (pth_nd h _ n hVn rfl), pth_nd h2 _ f hVf rfl, fun a ha b hb => ?_⟩
    rintro rfl
    have a1 := wk_conn w1 pth_head (List.mem_reverse.mp ha)
    have a2 := wk_conn w2 pth_head hb
    exact hnx (conn_tr hn (conn_tr a1 (conn_tr (conn_sy a2) (conn_sy hf))))
  have hhd : ((pth prev (len n) n).reverse ++ pth prev2 (len2 f) f).head? = some r := by
    rw [List.head?_append, List.head?_reverse, hl1]
    rfl
  have hls : ((pth prev (len n) n).reverse ++ pth prev2 (len2 f) f).getLast? = some x := by
    rw [List.getLast?_append, hl2]
    rfl
  have hv3 : V3 r := (rt_conn h3).mpr (conn_sy (wk_conn hw hhd (List.mem_of_getLast? hls)))
  exact ⟨hv3, (way_uniq hC hF' h3 _ r hw hnd hhd hv3 hls).symm⟩
/-- .. and one that leaves the way as it is -/
theorem way_keep (hC : 2 ≤ C) (hF : forest C op) {k j : Nat} {V3 : Nat → Prop} {len3 prev3 : Nat → Nat} (h2 : RT C op x V len prev) (h3 : RT C (setE (setE op k false) j true) x V3 len3 prev3)
    (hF' : forest C (setE (setE op k false) j true)) (hrx : conn C (setE op k false) x r) : V3 r ∧ pth prev3 (len3 r) r = pth prev (len r) r := by
  have hV : V r := (rt_conn h2).mpr (conn_mo del_mo hrx)
  have w := wk_mo (op' := setE (setE op k false) j true) ins_mo (way_sub hC hF h2 (op' := setE op k false) del_mo hrx)
  have hl := pth_last h2 _ r hV rfl
  have hv3 : V3 r := (rt_conn h3).mpr (conn_sy (wk_conn w pth_head (List.mem_of_getLast? hl)))
  exact ⟨hv3, (way_uniq hC hF' h3 _ r w (pth_nd h2 _ r hV rfl) pth_head hv3 hl).symm⟩
/-- the cells on the way between two: those from which both are together as far as they are from one another -/
theorem on_way (hC : 2 ≤ C) (hF : forest C op) {V2 : Nat → Prop} {len2 prev2 : Nat → Nat} (h : RT C op r V len prev) (h2 : RT C op x V2 len2 prev2) (hr : V2 r) (hc : V2 c) : c ∈ pth prev2 (len2 r) r ↔ V c ∧ len c + len2 c = len2 r := by
  have hVc : V c := (rt_conn h).mpr (conn_tr (conn_sy ((rt_conn h2).mp hr)) ((rt_conn h2).mp hc))
  constructor
  · intro hm
    refine ⟨hVc, ?_⟩
    obtain ⟨s, t, hst⟩ := List.append_of_mem hm
    have hw := pth_wk h2 _ r hr rfl
    have hnd := pth_nd h2 _ r hr rfl
    have hls := pth_last h2 _ r hr rfl
    have hhd := pth_head (prev := prev2) (n := len2 r) (c := r)
    have hlen := pth_len (prev := prev2) (n := len2 r) r
    rw [hst] at hw hnd hls hhd hlen
    have w2 : Wk C op (c :: t) := by
      have : ∀ s : List Nat, Wk C op (s ++ c :: t) → Wk C op (c :: t) := by
        intro s
        induction s with
        | nil => exact fun h => h
        | cons a s ih => exact fun h => ih (wk_tail h)
      exact this s hw
    have w1 : Wk C op (s ++ [c]) := by
      have : ∀ (s t : List Nat), Wk C op (s ++ c :: t) → Wk C op (s ++ [c]) := by
        intro s t
        induction s with
        | nil => intro _; trivial
        | cons a s ih =>
          intro hw
          cases s with
          | nil => exact ⟨hw.1, trivial⟩
          | cons b s => exact ⟨hw.1, ih hw.2⟩
      exact this s t hw
    have e2 := way_uniq hC hF h2 (c :: t) c w2 (List.nodup_append.mp hnd).2.1 rfl hc (by
      rw [List.getLast?_append] at hls
      cases ht : (c :: t).getLast? with
      | none => simp at ht
      | some q => rw [ht] at hls; simpa using hls)
    have n1 : (s ++ [c]).Nodup := by
      have : (s ++ [c] ++ t).Nodup := by simpa using hnd
      exact (List.nodup_append.mp this).1
    have e1 := way_uniq hC hF h (s ++ [c]).reverse c (wk_rev w1) (nd_rev n1) (by simp) hVc (by
      rw [List.getLast?_reverse]
      cases s with
      | nil => simpa using hhd
      | cons a s => simpa using hhd)
    have l1 := congrArg List.length e1
    have l2 := congrArg List.length e2
    rw [pth_len] at l1 l2
    simp at l1 l2 hlen
    omega
  · rintro ⟨-, hs⟩
    have w1 := pth_wk h _ c hVc rfl
    have w2 := pth_wk h2 _ c hc rfl
    have l1 := pth_last h _ c hVc rfl
    have l2 := pth_last h2 _ c hc rfl
    have key : (pth prev (len c) c).reverse ++ (pth prev2 (len2 c) c).tail = pth prev2 (len2 r) r := by
      refine way_short hC hF h2 _ r ?_ ?_ ?_ hr ?_
      · cases hp : len2 c with
        | zero => simp only [pth, List.tail_cons, List.append_nil]; exact wk_rev w1
        | succ n =>
          rw [hp] at w2
          have e : c ≠ x := by rintro rfl; rw [h2.2.1] at hp; cases hp
          refine wk_app (wk_rev w1) (wk_tail w2) (fun a b ha hb => ?_)
          rw [List.getLast?_reverse, pth_head] at ha
          cases ha
          have hb : (pth prev2 n (prev2 c)).head? = some b := hb
          rw [pth_head] at hb
          cases hb
          exact adj_sy (h2.2.2.1 c hc e).2.1
      · simp only [List.length_append, List.length_reverse, pth_len, List.length_tail]; omega
      · rw [List.head?_append, List.head?_reverse, l1]; rfl
      · rw [List.getLast?_append]
        cases hp : len2 c with
        | zero =>
          have e : c = x := Classical.byContradiction fun e => by have := (h2.2.2.1 c hc e).2.2; omega
          subst e
          simp only [pth, List.tail_cons, List.getLast?_nil, Option.none_or]
          rw [List.getLast?_reverse, pth_head]
        | succ n =>
          rw [hp] at l2
          have l2 : (c :: pth prev2 n (prev2 c)).getLast? = some x := l2
          show (pth prev2 n (prev2 c)).getLast?.or _ = _
          have : pth prev2 n (prev2 c) ≠ [] := by cases n <;> simp [pth]
          cases hq : pth prev2 n (prev2 c) with
          | nil => exact absurd hq this
          | cons a l => rw [hq] at l2; rw [List.getLast?_cons_cons] at l2; rw [l2]; rfl
    rw [← key]
    refine List.mem_append_left _ (List.mem_reverse.mpr ?_)
    cases len c <;> simp [pth]
end TR
/-- sums -/
def sumL (g : Nat → Int) : List Nat → Int
  | [] => 0
  | a :: l => g a + sumL g l
theorem sumL_app {g : Nat → Int} : ∀ {a b : List Nat}, sumL g (a ++ b) = sumL g a + sumL g b
  | [], b => by simp [sumL]
  | x :: a, b => by simp only [List.cons_append, sumL, sumL_app (a := a)]; omega
theorem sumL_rev {g : Nat → Int} : ∀ {a : List Nat}, sumL g a.reverse = sumL g a
  | [] => rfl
  | x :: a => by simp only [List.reverse_cons, sumL_app, sumL, sumL_rev (a := a)]; omega
def sumN (g : Nat → Int) : Nat → Int
  | 0 => 0
  | n + 1 => sumN g n + g n
theorem sumN_congr {f g : Nat → Int} {n : Nat} (h : ∀ c, c < n → f c = g c) : sumN f n = sumN g n := by
  induction n with
  | zero => rfl
  | succ n ih => simp only [sumN]; rw [ih (fun c hc => h c (by omega)), h n (by omega)]
theorem sumN_add {f g : Nat → Int} {n : Nat} : sumN (fun c => f c + g c) n = sumN f n + sumN g n := by
  induction n with
  | zero => rfl
  | succ n ih => simp only [sumN, ih]; omega
theorem sumN_0 {n : Nat} : sumN (fun _ => 0) n = 0 := by
  induction n with
  | zero => rfl
  | succ n ih => simp only [sumN, ih]; rfl
theorem sumN_one {g : Nat → Int} {a n : Nat} (h : a < n) : sumN (fun c => if c = a then g c else 0) n = g a := by
  induction n with
  | zero => omega
  | succ n ih =>
    simp only [sumN]
    by_cases e : n = a
    · subst e
      rw [if_pos rfl, sumN_congr (g := fun _ => 0) (fun c hc => if_neg (by omega)), sumN_0]
      omega
    · rw [if_neg e, ih (by omega)]; omega
/-- a sum over some cells without a repetition -/
theorem sumL_N {g : Nat → Int} {N : Nat} : ∀ {l : List Nat}, l.Nodup → (∀ c ∈ l, c < N) → sumN (fun c => if c ∈ l then g c else 0) N = sumL g l
  | [], _, _ => by simp only [List.not_mem_nil, if_false, sumL]; exact sumN_0
  | a :: l, hn, hl => by
    obtain ⟨n1, n2⟩ := List.nodup_cons.mp hn
    have ih := sumL_N (g := g) (N := N) n2 (fun c hc => hl c (List.mem_cons_of_mem _ hc))
    simp only [sumL]
    rw [← ih, ← sumN_one (g := g) (hl a List.mem_cons_self), ← sumN_add]
    refine sumN_congr (fun c _ => ?_)
    by_cases e : c = a
    · subst e; simp [n1]
    · simp [e]
end
section
/-! NUMBERS: an Int32 by an integer -/
def jI (n : Int) : Int32 := Int32.ofInt n
theorem jI_nI (n : Nat) : jI n = nI n := Int32.ofInt_eq_ofNat
theorem jI_oN (n : Nat) : Int32.ofNat n = jI n := Int32.ofInt_eq_ofNat.symm
theorem jI_add (a b : Int) : jI a + jI b = jI (a + b) := (Int32.ofInt_add a b).symm
theorem jI_sub (a b : Int) : jI a - jI b = jI (a - b) := (Int32.ofInt_sub a b).symm
theorem jI_mul (a b : Int) : jI a * jI b = jI (a * b) := (Int32.ofInt_mul a b).symm
theorem jI_neg (a : Int) : -jI a = jI (-a) := (Int32.ofInt_neg a).symm
theorem jI_ti {a : Int} (h1 : -2147483648 ≤ a) (h2 : a < 2147483648) : (jI a).toInt = a := Int32.toInt_ofInt_of_le h1 h2
theorem jI_lt {a b : Int} (h1 : -2147483648 ≤ a) (h2 : a < 2147483648) (h3 : -2147483648 ≤ b) (h4 : b < 2147483648) : (jI a < jI b) = (a < b) := by
  rw [Int32.lt_iff_toInt_lt, jI_ti h1 h2, jI_ti h3 h4]
theorem jI_le {a b : Int} (h1 : -2147483648 ≤ a) (h2 : a < 2147483648) (h3 : -2147483648 ≤ b) (h4 : b < 2147483648) : (jI a ≤ jI b) = (a ≤ b) := by
  rw [Int32.le_iff_toInt_le, jI_ti h1 h2, jI_ti h3 h4]
theorem jI_eq {a b : Int} (h1 : -2147483648 ≤ a) (h2 : a < 2147483648) (h3 : -2147483648 ≤ b) (h4 : b < 2147483648) : (jI a = jI b) = (a = b) := by
  rw [← Int32.toInt_inj, jI_ti h1 h2, jI_ti h3 h4]
theorem jI_div {a b : Int} (h1 : 0 ≤ a) (h2 : a < 2147483648) (h3 : 0 < b) (h4 : b < 2147483648) : jI a / jI b = jI (a / b) := by
  apply Int32.toInt_inj.mp
  have hne : jI b ≠ -1 := by
    intro e
    have := congrArg Int32.toInt e
    rw [jI_ti (by omega) h4] at this
    have h5 : (-1 : Int32).toInt = -1 := by decide
    omega
  have hd : a / b ≤ a := Int.ediv_le_self b h1
  have h0 : 0 ≤ a / b := Int.ediv_nonneg h1 (by omega)
  rw [Int32.toInt_div_of_ne_right _ _ hne, jI_ti (by omega) h2, jI_ti (by omega) h4, jI_ti (by omega) (by omega), Int.tdiv_eq_ediv_of_nonneg h1]
theorem jI_cl {a : Int} (h1 : -2147483648 ≤ a) (h2 : a < 2147483648) : (jI a).toNatClampNeg = a.toNat := Int32.toNatClampNeg_ofInt_of_le h1 h2
theorem jI_cn {n : Nat} (h : n < 2147483648) : (jI n).toNatClampNeg = n := by rw [jI_cl (by omega) (by omega)]; omega
theorem jI_inb {a : Int} {n : Nat} (h1 : -2147483648 ≤ a) (h2 : a < 2147483648) : inb (jI a) n = decide (0 ≤ a ∧ a < n) := by
  have h0 : (0 : Int32) = jI 0 := by decide
  unfold inb
  rw [h0]
  simp only [jI_lt h1 h2 (show -2147483648 ≤ (0 : Int) by omega) (show (0 : Int) < 2147483648 by omega), jI_cl h1 h2]
  by_cases h3 : a < 0
  · rw [decide_eq_true h3, decide_eq_false (show ¬ (0 ≤ a ∧ a < (n : Int)) by omega)]; rfl
  · rw [decide_eq_false h3]
    by_cases h4 : a < n
    · rw [decide_eq_true (show a.toNat < n by omega), decide_eq_true (show 0 ≤ a ∧ a < (n : Int) by omega)]; rfl
    · rw [decide_eq_false (show ¬ a.toNat < n by omega), decide_eq_false (show ¬ (0 ≤ a ∧ a < (n : Int)) by omega)]; rfl
theorem gd_t {β : Type} {k : Option β} : gd true k = k := rfl
theorem j_m1 : (-1 : Int32) = jI (-1) := by decide +kernel
theorem j_m2 : (-2 : Int32) = jI (-2) := by decide +kernel
theorem j_m3 : (-3 : Int32) = jI (-3) := by decide +kernel
theorem j_m4 : (-4 : Int32) = jI (-4) := by decide +kernel
theorem j_0 : (0 : Int32) = jI 0 := by decide +kernel
theorem j_1 : (1 : Int32) = jI 1 := by decide +kernel
theorem j_2 : (2 : Int32) = jI 2 := by decide +kernel
theorem j_3 : (3 : Int32) = jI 3 := by decide +kernel
theorem j_4 : (4 : Int32) = jI 4 := by decide +kernel
theorem j_5 : (5 : Int32) = jI 5 := by decide +kernel
theorem j_6 : (6 : Int32) = jI 6 := by decide +kernel
theorem j_7 : (7 : Int32) = jI 7 := by decide +kernel
theorem j_8 : (8 : Int32) = jI 8 := by decide +kernel
theorem j_9 : (9 : Int32) = jI 9 := by decide +kernel
theorem j_16 : (16 : Int32) = jI 16 := by decide +kernel
theorem j_31 : (31 : Int32) = jI 31 := by decide +kernel
theorem j_32 : (32 : Int32) = jI 32 := by decide +kernel
theorem j_36 : (36 : Int32) = jI 36 := by decide +kernel
theorem j_42 : (42 : Int32) = jI 42 := by decide +kernel
theorem j_47 : (47 : Int32) = jI 47 := by decide +kernel
theorem j_48 : (48 : Int32) = jI 48 := by decide +kernel
theorem j_57 : (57 : Int32) = jI 57 := by decide +kernel
theorem j_60 : (60 : Int32) = jI 60 := by decide +kernel
theorem j_63 : (63 : Int32) = jI 63 := by decide +kernel
theorem j_114 : (114 : Int32) = jI 114 := by decide +kernel
theorem j_126 : (126 : Int32) = jI 126 := by decide +kernel
theorem j_144 : (144 : Int32) = jI 144 := by decide +kernel
theorem j_324 : (324 : Int32) = jI 324 := by decide +kernel
theorem j_342 : (342 : Int32) = jI 342 := by decide +kernel
theorem j_1000000 : (1000000 : Int32) = jI 1000000 := by decide +kernel
theorem jS (k : Nat) : jI (k : Int) + (1 : Int32) = jI ((k + 1 : Nat) : Int) := by rw [j_1, jI_add]; rfl
theorem jnA (a b : Nat) : jI (a : Int) + jI (b : Int) = jI ((a + b : Nat) : Int) := by rw [jI_add]; rfl
theorem jnM (a b : Nat) : jI (a : Int) * jI (b : Int) = jI ((a * b : Nat) : Int) := by rw [jI_mul]; rfl
theorem j42p (k : Nat) : (42 : Int32) + jI (k : Int) = jI ((42 + k : Nat) : Int) := by rw [j_42, jI_add]; rfl
theorem j6p (k : Nat) : (6 : Int32) + jI (k : Int) = jI ((6 + k : Nat) : Int) := by rw [j_6, jI_add]; rfl
theorem j2m (k : Nat) : (2 : Int32) * jI (k : Int) = jI ((2 * k : Nat) : Int) := by rw [j_2, jI_mul]; rfl
theorem j4m (k : Nat) : (4 : Int32) * jI (k : Int) = jI ((4 * k : Nat) : Int) := by rw [j_4, jI_mul]; rfl
theorem j114m (k : Nat) : (114 : Int32) * jI (k : Int) = jI ((114 * k : Nat) : Int) := by rw [j_114, jI_mul]; rfl
theorem jN (k : Nat) : Int32.ofNat k = jI (k : Int) := jI_oN k
theorem jZ : (0 : Int32) = jI ((0 : Nat) : Int) := by decide +kernel
theorem jcl (k : Nat) (h : k < 2147483648) : (jI (k : Int)).toNatClampNeg = k := jI_cn h
theorem gdi {β : Type} {a n : Nat} {K : Option β} (h : a < n) (hn : n < 100000) : gd (inb (jI (a : Int)) n) K = K := by
  rw [jI_inb (by omega) (by omega), decide_eq_true (by omega)]; rfl
theorem nle {a b : Nat} (ha : a < 100000) (hb : b < 100000) : (jI (a : Int) ≤ jI (b : Int)) = (a ≤ b) := by rw [jI_le (by omega) (by omega) (by omega) (by omega)]; exact propext (by omega)
theorem nlt {a b : Nat} (ha : a < 100000) (hb : b < 100000) : (jI (a : Int) < jI (b : Int)) = (a < b) := by rw [jI_lt (by omega) (by omega) (by omega) (by omega)]; exact propext (by omega)
theorem neq {a b : Nat} (ha : a < 100000) (hb : b < 100000) : (jI (a : Int) = jI (b : Int)) = (a = b) := by rw [jI_eq (by omega) (by omega) (by omega) (by omega)]; exact propext (by omega)
theorem ndiv {a b : Nat} (ha : a < 100000) (hb : b < 100000) (h0 : 0 < b) : jI (a : Int) / jI (b : Int) = jI ((a / b : Nat) : Int) := by
  rw [jI_div (by omega) (by omega) (by omega) (by omega)]; rfl
theorem nn0 {a : Nat} (ha : a < 100000) : (jI (a : Int) < 0) = False := by rw [j_0, jI_lt (by omega) (by omega) (by omega) (by omega)]; exact eq_false (by omega)
theorem n0l {a : Nat} (ha : a < 100000) : ((0 : Int32) ≤ jI (a : Int)) = True := by rw [j_0, jI_le (by omega) (by omega) (by omega) (by omega)]; exact eq_true (by omega)
theorem nle0 {a : Nat} (ha : a < 100000) : (jI (a : Int) ≤ 0) = (a = 0) := by rw [j_0, jI_le (by omega) (by omega) (by omega) (by omega)]; exact propext (by omega)
theorem ne0 {a : Nat} (ha : a < 100000) : (jI (a : Int) = 0) = (a = 0) := by rw [j_0, jI_eq (by omega) (by omega) (by omega) (by omega)]; exact propext (by omega)
theorem nem1 {a : Nat} (ha : a < 100000) : (jI (a : Int) = (-1 : Int32)) = False := by rw [j_m1, jI_eq (by omega) (by omega) (by omega) (by omega)]; exact eq_false (by omega)
theorem gnz {β : Type} {a : Nat} {K : Option β} (h : 0 < a) (ha : a < 100000) : gd (nz (jI (a : Int))) K = K := by
  have : ¬ (jI (a : Int) = 0) := by rw [ne0 ha]; omega
  unfold nz
  rw [decide_eq_false this]; rfl
theorem gz0 {β : Type} {K : Option β} : gd (zb (0 : Int32)) K = K := rfl
theorem gz1 {β : Type} {K : Option β} : gd (zb (1 : Int32)) K = K := rfl
theorem gn2 {β : Type} {K : Option β} : gd (nz (2 : Int32)) K = K := rfl
theorem gn4 {β : Type} {K : Option β} : gd (nz (4 : Int32)) K = K := rfl
theorem ne10 : ((1 : Int32) = 0) = False := eq_false (by decide)
theorem eq00 : ((0 : Int32) = 0) = True := eq_true rfl
theorem eq11 : ((1 : Int32) = 1) = True := eq_true rfl
theorem ne01 : ((0 : Int32) = 1) = False := eq_false (by decide)
theorem jl_0 : (0 : Int32) = jI ((0 : Nat) : Int) := by decide +kernel
theorem jl_1 : (1 : Int32) = jI ((1 : Nat) : Int) := by decide +kernel
theorem jl_2 : (2 : Int32) = jI ((2 : Nat) : Int) := by decide +kernel
theorem jl_3 : (3 : Int32) = jI ((3 : Nat) : Int) := by decide +kernel
theorem jl_4 : (4 : Int32) = jI ((4 : Nat) : Int) := by decide +kernel
theorem jl_5 : (5 : Int32) = jI ((5 : Nat) : Int) := by decide +kernel
theorem jl_6 : (6 : Int32) = jI ((6 : Nat) : Int) := by decide +kernel
theorem jl_7 : (7 : Int32) = jI ((7 : Nat) : Int) := by decide +kernel
theorem jl_8 : (8 : Int32) = jI ((8 : Nat) : Int) := by decide +kernel
theorem jl_9 : (9 : Int32) = jI ((9 : Nat) : Int) := by decide +kernel
theorem jl_16 : (16 : Int32) = jI ((16 : Nat) : Int) := by decide +kernel
theorem jl_31 : (31 : Int32) = jI ((31 : Nat) : Int) := by decide +kernel
theorem jl_32 : (32 : Int32) = jI ((32 : Nat) : Int) := by decide +kernel
theorem jl_36 : (36 : Int32) = jI ((36 : Nat) : Int) := by decide +kernel
theorem jl_42 : (42 : Int32) = jI ((42 : Nat) : Int) := by decide +kernel
theorem jl_47 : (47 : Int32) = jI ((47 : Nat) : Int) := by decide +kernel
theorem jl_48 : (48 : Int32) = jI ((48 : Nat) : Int) := by decide +kernel
theorem jl_57 : (57 : Int32) = jI ((57 : Nat) : Int) := by decide +kernel
theorem jl_60 : (60 : Int32) = jI ((60 : Nat) : Int) := by decide +kernel
theorem jl_63 : (63 : Int32) = jI ((63 : Nat) : Int) := by decide +kernel
theorem jl_114 : (114 : Int32) = jI ((114 : Nat) : Int) := by decide +kernel
theorem jl_126 : (126 : Int32) = jI ((126 : Nat) : Int) := by decide +kernel
theorem jl_144 : (144 : Int32) = jI ((144 : Nat) : Int) := by decide +kernel
theorem jl_324 : (324 : Int32) = jI ((324 : Nat) : Int) := by decide +kernel
theorem jl_342 : (342 : Int32) = jI ((342 : Nat) : Int) := by decide +kernel
theorem jl_1000000 : (1000000 : Int32) = jI ((1000000 : Nat) : Int) := by decide +kernel
theorem upd_s {f : nF} {k : Nat} {x : Int32} : upd f k x k = x := if_pos rfl
theorem upd_n {f : nF} {k j : Nat} {x : Int32} (h : j ≠ k) : upd f k x j = f j := if_neg h
theorem at_i {n k : Nat} {f : nF} (h : k < n) (hn : n < 100000) : mX7_at n f (jI (k : Int)) = some (f k) := by
  simp only [mX7_at, jn_e, jN]
  rw [if_neg (by rw [nn0 (by omega)]; exact fun h => h), if_neg (by rw [nle hn (by omega)]; omega), gdi h hn, jcl _ (by omega)]
theorem at_o {n : Nat} {i : Int} {f : nF} (h : i < 0 ∨ (n : Int) ≤ i) (hn : n < 100000) (h1 : -2147483648 ≤ i) (h2 : i < 2147483648) : mX7_at n f (jI i) = some 0 := by
  simp only [mX7_at, jn_e, jI_oN]
  simp only [j_0, jI_lt h1 h2 (show -2147483648 ≤ (0 : Int) by omega) (show (0 : Int) < 2147483648 by omega), jI_le (show -2147483648 ≤ (n : Int) by omega) (show (n : Int) < 2147483648 by omega) h1 h2]
  by_cases h3 : i < 0
  · rw [if_pos h3]
  · rw [if_neg h3, if_pos (by omega)]
theorem put_i {n k : Nat} {f : nF} {x : Int32} (h : k < n) (hn : n < 100000) : mX7_put n f (jI (k : Int)) x = some (upd f k x) := by
  simp only [mX7_put, jn_e, jN]
  rw [if_neg (by rw [nn0 (by omega)]; exact fun h => h), if_neg (by rw [nle hn (by omega)]; omega), gdi h hn, jcl _ (by omega)]
theorem put_o {n : Nat} {i : Int} {f : nF} {x : Int32} (h : i < 0 ∨ (n : Int) ≤ i) (hn : n < 100000) (h1 : -2147483648 ≤ i) (h2 : i < 2147483648) : mX7_put n f (jI i) x = some f := by
  simp only [mX7_put, jn_e, jI_oN]
  simp only [j_0, jI_lt h1 h2 (show -2147483648 ≤ (0 : Int) by omega) (show (0 : Int) < 2147483648 by omega), jI_le (show -2147483648 ≤ (n : Int) by omega) (show (n : Int) < 2147483648 by omega) h1 h2]
  by_cases h3 : i < 0
  · rw [if_pos h3]
  · rw [if_neg h3, if_pos (by omega)]
def bI (b : Bool) : Int32 := if b = true then 1 else 0
theorem bIt0 : ¬ bI true = 0 := by decide
theorem ifb {β : Type} {b : Bool} {inst : Decidable (bI b = 0)} {A B : β} : @ite β (bI b = 0) inst A B = if b = true then B else A := by
  cases b
  · rw [if_pos (show bI false = 0 from rfl)]; rfl
  · rw [if_neg bIt0]; rfl
theorem gzb {β : Type} {b : Bool} {K : Option β} : gd (zb (bI b)) K = K := by cases b <;> rfl
theorem bI1 {b : Bool} : (bI b = 1) = (b = true) := by cases b <;> decide
theorem bI_t : bI true = 1 := rfl
theorem bI_f : bI false = 0 := rfl
theorem bI_p {P : Prop} [Decidable P] (h : P) : bI (decide P) = 1 := by rw [decide_eq_true h]; rfl
theorem bI_n {P : Prop} [Decidable P] (h : ¬ P) : bI (decide P) = 0 := by rw [decide_eq_false h]; rfl
theorem jI_ge (g : Int32) : jI g.toInt = g := Int32.ofInt_toInt g
theorem ti_b (g : Int32) : -2147483648 ≤ g.toInt ∧ g.toInt < 2147483648 := ⟨Int32.le_toInt g, Int32.toInt_lt g⟩
theorem jlt {a b : Int} (h1 : -2147483648 ≤ a ∧ a < 2147483648) (h2 : -2147483648 ≤ b ∧ b < 2147483648) : (jI a < jI b) = (a < b) := jI_lt h1.1 h1.2 h2.1 h2.2
theorem jle {a b : Int} (h1 : -2147483648 ≤ a ∧ a < 2147483648) (h2 : -2147483648 ≤ b ∧ b < 2147483648) : (jI a ≤ jI b) = (a ≤ b) := jI_le h1.1 h1.2 h2.1 h2.2
theorem jeq {a b : Int} (h1 : -2147483648 ≤ a ∧ a < 2147483648) (h2 : -2147483648 ≤ b ∧ b < 2147483648) : (jI a = jI b) = (a = b) := jI_eq h1.1 h1.2 h2.1 h2.2
theorem cl0 : (0 : Int32).toNatClampNeg = 0 := by decide +kernel
theorem cl1 : (1 : Int32).toNatClampNeg = 1 := by decide +kernel
theorem cl2 : (2 : Int32).toNatClampNeg = 2 := by decide +kernel
theorem cl3 : (3 : Int32).toNatClampNeg = 3 := by decide +kernel
theorem cl4 : (4 : Int32).toNatClampNeg = 4 := by decide +kernel
theorem cl5 : (5 : Int32).toNatClampNeg = 5 := by decide +kernel
theorem gl0 {β : Type} {K : Option β} : gd (inb (0 : Int32) 114) K = K := by rw [show inb (0 : Int32) 114 = true by decide +kernel]; rfl
theorem gl1 {β : Type} {K : Option β} : gd (inb (1 : Int32) 114) K = K := by rw [show inb (1 : Int32) 114 = true by decide +kernel]; rfl
theorem gl2 {β : Type} {K : Option β} : gd (inb (2 : Int32) 114) K = K := by rw [show inb (2 : Int32) 114 = true by decide +kernel]; rfl
theorem gl3 {β : Type} {K : Option β} : gd (inb (3 : Int32) 114) K = K := by rw [show inb (3 : Int32) 114 = true by decide +kernel]; rfl
theorem gl4 {β : Type} {K : Option β} : gd (inb (4 : Int32) 114) K = K := by rw [show inb (4 : Int32) 114 = true by decide +kernel]; rfl
theorem gl5 {β : Type} {K : Option β} : gd (inb (5 : Int32) 114) K = K := by rw [show inb (5 : Int32) 114 = true by decide +kernel]; rfl
theorem gl036 {β : Type} {K : Option β} : gd (inb (0 : Int32) 36) K = K := by rw [show inb (0 : Int32) 36 = true by decide +kernel]; rfl
end
section
/-! THE MAZE as numbers: columns, rows, tones, open places, doors -/
abbrev Mz : Type := (Nat × Nat) × (Nat → Nat) × Op × ((Nat × Nat) × (Nat × Nat))
def mC (M : Mz) : Nat := M.1.1
def mR (M : Mz) : Nat := M.1.2
def mN (M : Mz) : Nat := M.1.1 * M.1.2
def mT (M : Mz) : Nat → Nat := M.2.1
def mO (M : Mz) : Op := M.2.2.1
def mE (M : Mz) : Nat := M.2.2.2.1.1
def mEs (M : Mz) : Nat := M.2.2.2.1.2
def mX (M : Mz) : Nat := M.2.2.2.2.1
def mXs (M : Mz) : Nat := M.2.2.2.2.2
def setO (M : Mz) (op : Op) : Mz := (M.1, M.2.1, op, M.2.2.2)
def setT (M : Mz) (t : Nat → Nat) : Mz := (M.1, t, M.2.2)
/-- the cell beside one -/
def nb (C N c d : Nat) : Option Nat :=
  if d = 0 then (if C ≤ c then some (c - C) else none)
  else if d = 1 then (if c % C + 1 < C then some (c + 1) else none)
  else if d = 2 then (if c + C < N then some (c + C) else none)
  else (if 0 < c % C then some (c - 1) else none)
/-- the number of the place of a passage -/
def num (C c d : Nat) : Nat := if d = 0 then 2 * (c - C) + 1 else if d = 1 then 2 * c else if d = 2 then 2 * c + 1 else 2 * (c - 1)
/-- a place of a passage -/
def vld (C N k : Nat) : Prop := k < 2 * N ∧ (if k % 2 = 0 then (k / 2) % C + 1 < C else k / 2 + C < N)
def oJ (x : Option Nat) : Int32 := match x with
  | none => jI (-1)
  | some k => jI k
def opn (C N : Nat) (op : Op) (c d : Nat) : Bool := (nb C N c d).isSome && op (num C c d)
def mask (C N : Nat) (op : Op) (c : Nat) : Nat := (if opn C N op c 0 then 1 else 0) + (if opn C N op c 1 then 2 else 0) + (if opn C N op c 2 then 4 else 0) + (if opn C N op c 3 then 8 else 0)
def dm (M : Mz) : Prop := 2 ≤ mC M ∧ mC M ≤ 6 ∧ 2 ≤ mR M ∧ mR M ≤ 6
def WF (M : Mz) : Prop := dm M ∧ (∀ c, c < mN M → mT M c ≤ 9) ∧ (∀ k, mO M k = true → vld (mC M) (mN M) k) ∧ forest (mC M) (mO M) ∧
  (mE M < mN M ∧ mEs M < 4 ∧ nb (mC M) (mN M) (mE M) (mEs M) = none) ∧ (mX M < mN M ∧ mXs M < 4 ∧ nb (mC M) (mN M) (mX M) (mXs M) = none) ∧ ¬ (mE M = mX M ∧ mEs M = mXs M)
theorem dm_N {M : Mz} (h : dm M) : mN M = mC M * mR M ∧ 4 ≤ mN M ∧ mN M ≤ 36 ∧ mC M ≤ mN M := by
  obtain ⟨h1, h2, h3, h4⟩ := h
  have e : mN M = mC M * mR M := rfl
  refine ⟨e, ?_, ?_, ?_⟩
  · rw [e]; exact Nat.mul_le_mul h1 h3
  · rw [e]; exact Nat.mul_le_mul h2 h4
  · rw [e]; exact Nat.le_mul_of_pos_right _ (by omega)
/-- numbers of the grid, tried one by one -/
theorem grid_all {P : Nat → Nat → Nat → Nat → Bool} (h : (List.range 7).all (fun C => (List.range 7).all (fun R => !(decide (2 ≤ C)) || !(decide (2 ≤ R)) || (List.range (C * R)).all (fun c => (List.range 4).all (fun d => P C R c d)))) = true) {C R c d : Nat} (h1 : 2 ≤ C) (h2 : C ≤ 6) (h3 : 2 ≤ R) (h4 : R ≤ 6) (hc : c < C * R) (hd : d < 4) : P C R c d = true := by
  simp only [List.all_eq_true, List.mem_range, Bool.or_eq_true, Bool.not_eq_true', decide_eq_false_iff_not] at h
  have := h C (by omega) R (by omega)
  rcases this with (h5 | h5) | h5
  · omega
  · omega
  · exact h5 c hc d hd
def opp (d : Nat) : Nat := if d = 0 then 2 else if d = 1 then 3 else if d = 2 then 0 else 1
theorem opp_lt {d : Nat} : opp d < 4 := by unfold opp; split <;> (try split) <;> (try split) <;> omega
theorem opp_opp {d : Nat} (h : d < 4) : opp (opp d) = d := by
  have : d = 0 ∨ d = 1 ∨ d = 2 ∨ d = 3 := by omega
  rcases this with rfl | rfl | rfl | rfl <;> rfl
/-- a neighbour, its place and the way back -/
theorem nb_pl {C R c d o : Nat} (h1 : 2 ≤ C) (h2 : C ≤ 6) (h3 : 2 ≤ R) (h4 : R ≤ 6) (hc : c < C * R) (hd : d < 4) (h : nb C (C * R) c d = some o) :
    vld C (C * R) (num C c d) ∧ ((pA (num C c d) = c ∧ pB C (num C c d) = o) ∨ (pA (num C c d) = o ∧ pB C (num C c d) = c)) ∧ o < C * R ∧ nb C (C * R) o (opp d) = some c ∧ num C o (opp d) = num C c d := by
  have hC : C = 2 ∨ C = 3 ∨ C = 4 ∨ C = 5 ∨ C = 6 := by omega
  have hR : R = 2 ∨ R = 3 ∨ R = 4 ∨ R = 5 ∨ R = 6 := by omega
  have hD : d = 0 ∨ d = 1 ∨ d = 2 ∨ d = 3 := by omega
  rcases hD with rfl | rfl | rfl | rfl
  · simp only [nb, num, opp, vld, pA, pB, if_true] at h ⊢
    split at h
    · cases h
      have e1 : (2 * (c - C) + 1) % 2 = 1 := by omega
      have e2 : (2 * (c - C) + 1) / 2 = c - C := by omega
      simp only [e1, e2, if_neg (show ¬ (1 : Nat) = 0 by omega), if_neg (show ¬ (2 : Nat) = 0 by omega), if_neg (show ¬ (2 : Nat) = 1 by omega), if_true]
      rename_i hh
      rw [if_pos (show c - C + C < C * R by omega)]
      refine ⟨⟨by omega, by omega⟩, Or.inr ⟨trivial, by omega⟩, by omega, by rw [show c - C + C = c by omega], trivial⟩
    · cases h
  · simp only [nb, num, opp, vld, pA, pB, if_neg (show ¬ (1 : Nat) = 0 by omega), if_true, if_neg (show ¬ (3 : Nat) = 0 by omega), if_neg (show ¬ (3 : Nat) = 1 by omega), if_neg (show ¬ (3 : Nat) = 2 by omega)] at h ⊢
    split at h
    · cases h
      rename_i hh
      have e1 : (2 * c) % 2 = 0 := by omega
      have e2 : (2 * c) / 2 = c := by omega
      have e3 : 0 < (c + 1) % C := by rcases hC with rfl | rfl | rfl | rfl | rfl <;> omega
      have e4 : c + 1 < C * R := by rcases hC with rfl | rfl | rfl | rfl | rfl <;> omega
      simp only [e1, e2, if_true]
      rw [if_pos e3]
      refine ⟨⟨by omega, hh⟩, Or.inl ⟨trivial, trivial⟩, e4, by rw [show c + 1 - 1 = c by omega], by omega⟩
    · cases h
  · simp only [nb, num, opp, vld, pA, pB, if_neg (show ¬ (2 : Nat) = 0 by omega), if_neg (show ¬ (2 : Nat) = 1 by omega), if_true] at h ⊢
    split at h
    · cases h
      rename_i hh
      have e1 : (2 * c + 1) % 2 = 1 := by omega
      have e2 : (2 * c + 1) / 2 = c := by omega
      simp only [e1, e2, if_neg (show ¬ (1 : Nat) = 0 by omega)]
      rw [if_pos (show C ≤ c + C by omega)]
      refine ⟨⟨by omega, hh⟩, Or.inl ⟨trivial, trivial⟩, hh, by rw [show c + C - C = c by omega], by omega⟩
    · cases h
  · simp only [nb, num, opp, vld, pA, pB, if_neg (show ¬ (3 : Nat) = 0 by omega), if_neg (show ¬ (3 : Nat) = 1 by omega), if_neg (show ¬ (3 : Nat) = 2 by omega), if_neg (show ¬ (1 : Nat) = 0 by omega), if_true] at h ⊢
    split at h
    · cases h
      rename_i hh
      have e0 : 0 < c := by
        rcases Nat.eq_zero_or_pos c with rfl | q
        · simp at hh
        · exact q
      have e1 : (2 * (c - 1)) % 2 = 0 := by omega
      have e2 : (2 * (c - 1)) / 2 = c - 1 := by omega
      have e3 : (c - 1) % C + 1 < C := by rcases hC with rfl | rfl | rfl | rfl | rfl <;> omega
      simp only [e1, e2, if_true]
      rw [if_pos e3]
      refine ⟨⟨by omega, by first | trivial | exact e3⟩, Or.inr ⟨trivial, by omega⟩, by omega, by rw [show c - 1 + 1 = c by omega], trivial⟩
    · cases h
/-- the direction in which a place goes from its low end -/
def pdr (k : Nat) : Nat := if k % 2 = 0 then 1 else 2
theorem pdr_lt {k : Nat} : pdr k < 4 := by unfold pdr; split <;> omega
theorem pdr_num {C k : Nat} : num C (pA k) (pdr k) = k := by
  unfold num pA pdr
  split
  · simp; omega
  · simp; omega
theorem pl_nb {C N k : Nat} (h : vld C N k) : nb C N (pA k) (pdr k) = some (pB C k) := by
  unfold vld at h
  unfold nb pA pB pdr
  by_cases e : k % 2 = 0
  · rw [if_pos e] at h
    simp only [if_pos e, if_neg (show ¬ (1 : Nat) = 0 by omega), if_true]
    rw [if_pos h.2]
  · rw [if_neg e] at h
    simp only [if_neg e, if_neg (show ¬ (2 : Nat) = 0 by omega), if_neg (show ¬ (2 : Nat) = 1 by omega), if_true]
    rw [if_pos h.2]
theorem npl_nb {C N k : Nat} (hk : k < 2 * N) (h : ¬ vld C N k) : nb C N (pA k) (pdr k) = none := by
  unfold vld at h
  unfold nb pA pdr
  by_cases e : k % 2 = 0
  · rw [if_pos e] at h
    simp only [if_pos e, if_neg (show ¬ (1 : Nat) = 0 by omega), if_true]
    rw [if_neg (fun q => h ⟨hk, q⟩)]
  · rw [if_neg e] at h
    simp only [if_neg e, if_neg (show ¬ (2 : Nat) = 0 by omega), if_neg (show ¬ (2 : Nat) = 1 by omega), if_true]
    rw [if_neg (fun q => h ⟨hk, q⟩)]
theorem pA_lt {N k : Nat} (hk : k < 2 * N) : pA k < N := by unfold pA; omega
/-- all open places are places of the grid -/
def vO (C N : Nat) (op : Op) : Prop := ∀ k, op k = true → vld C N k
theorem vO_inG {C R : Nat} {op : Op} (h1 : 2 ≤ C) (h2 : C ≤ 6) (h3 : 2 ≤ R) (h4 : R ≤ 6) (h : vO C (C * R) op) : inG (C * R) C op := by
  intro k hk
  have hv := h k hk
  have ha : pA k < C * R := pA_lt hv.1
  exact ⟨hv.1, ha, (nb_pl h1 h2 h3 h4 ha pdr_lt (pl_nb hv)).2.2.1⟩
theorem vO_set {C N k : Nat} {op : Op} {b : Bool} (h : vO C N op) (hk : vld C N k) : vO C N (setE op k b) := by
  intro j hj
  by_cases e : j = k
  · subst e; exact hk
  · rw [setE_ne e] at hj; exact h j hj
/-- being beside through an open place, by directions -/
theorem adj_dir {C R x y : Nat} {op : Op} (h1 : 2 ≤ C) (h2 : C ≤ 6) (h3 : 2 ≤ R) (h4 : R ≤ 6) (h : vO C (C * R) op) (hx : x < C * R) : adj C op x y ↔ ∃ d, d < 4 ∧ nb C (C * R) x d = some y ∧ op (num C x d) = true := by
  constructor
  · rintro ⟨k, hk, he⟩
    have hv := h k hk
    have ha : pA k < C * R := pA_lt hv.1
    have hn := pl_nb hv
    have hp := nb_pl h1 h2 h3 h4 ha pdr_lt hn
    rcases he with ⟨a, b⟩ | ⟨a, b⟩
    · subst a; subst b
      exact ⟨pdr k, pdr_lt, hn, by rw [pdr_num]; exact hk⟩
    · subst a; subst b
      exact ⟨opp (pdr k), opp_lt, hp.2.2.2.1, by rw [hp.2.2.2.2, pdr_num]; exact hk⟩
  · rintro ⟨d, hd, hn, ho⟩
    exact ⟨num C x d, ho, (nb_pl h1 h2 h3 h4 hx hd hn).2.1⟩
theorem opn_t {C N c d : Nat} {op : Op} : opn C N op c d = true ↔ ∃ o, nb C N c d = some o ∧ op (num C c d) = true := by
  unfold opn
  cases nb C N c d with
  | none => simp
  | some o => simp
theorem opn_set {C R c d o c' d' : Nat} {op : Op} {b : Bool} (h1 : 2 ≤ C) (h2 : C ≤ 6) (h3 : 2 ≤ R) (h4 : R ≤ 6) (hc : c < C * R) (hd : d < 4) (h : nb C (C * R) c d = some o) (hc' : c' < C * R) (hd' : d' < 4) :
    opn C (C * R) (setE op (num C c d) b) c' d' = if (c' = c ∧ d' = d) ∨ (c' = o ∧ d' = opp d) then b else opn C (C * R) op c' d' := by
  have hp := nb_pl h1 h2 h3 h4 hc hd h
  by_cases e : (c' = c ∧ d' = d) ∨ (c' = o ∧ d' = opp d)
  · rw [if_pos e]
    rcases e with ⟨rfl, rfl⟩ | ⟨rfl, rfl⟩
    · unfold opn; rw [h, setE_self]; rfl
    · unfold opn; rw [hp.2.2.2.1, hp.2.2.2.2, setE_self]; rfl
  · rw [if_neg e]
    unfold opn
    cases hn : nb C (C * R) c' d' with
    | none => rfl
    | some o' =>
      have hp' := nb_pl h1 h2 h3 h4 hc' hd' hn
      rw [setE_ne]
      intro hk
      apply e
      have h5 := hp.2.1
      rw [← hk] at h5
      have nbinj : ∀ {x d1 d2 y : Nat}, x < C * R → d1 < 4 → d2 < 4 → nb C (C * R) x d1 = some y → nb C (C * R) x d2 = some y → d1 = d2 := by
        intro x d1 d2 y hx q1 q2 n1 n2
        have g1 : d1 = 0 ∨ d1 = 1 ∨ d1 = 2 ∨ d1 = 3 := by omega
        have g2 : d2 = 0 ∨ d2 = 1 ∨ d2 = 2 ∨ d2 = 3 := by omega
        rcases g1 with rfl | rfl | rfl | rfl <;> rcases g2 with rfl | rfl | rfl | rfl <;> first | rfl | (simp only [nb] at n1 n2; simp at n1 n2; omega)
      rcases h5 with ⟨a, b⟩ | ⟨a, b⟩ <;> rcases hp'.2.1 with ⟨a', b'⟩ | ⟨a', b'⟩
      · left
        have e1 : c' = c := (a'.symm.trans a)
        have e2 : o' = o := (b'.symm.trans b)
        subst e1; subst e2
        exact ⟨rfl, nbinj hc' hd' hd hn h⟩
      · right
        have e1 : o' = c := (a'.symm.trans a)
        have e2 : c' = o := (b'.symm.trans b)
        subst e1; subst e2
        exact ⟨rfl, nbinj hc' hd' opp_lt hn hp.2.2.2.1⟩
      · right
        have e1 : c' = o := (a'.symm.trans a)
        have e2 : o' = c := (b'.symm.trans b)
        subst e1; subst e2
        exact ⟨rfl, nbinj hc' hd' opp_lt hn hp.2.2.2.1⟩
      · left
        have e1 : o' = o := (a'.symm.trans a)
        have e2 : c' = c := (b'.symm.trans b)
        subst e1; subst e2
        exact ⟨rfl, nbinj hc' hd' hd hn h⟩
end
section
/-! SPEC, first part: what the small methods of both sides answer, by the maze -/
section IFS
variable {β : Type} {A B : β}
theorem nle_t {a b : Nat} {inst : Decidable (jI (a : Int) ≤ jI (b : Int))} (h : a ≤ b) (hb : b < 100000) : @ite β (jI (a : Int) ≤ jI (b : Int)) inst A B = A := if_pos (by rw [nle (by omega) hb]; exact h)
theorem nle_f {a b : Nat} {inst : Decidable (jI (a : Int) ≤ jI (b : Int))} (h : b < a) (ha : a < 100000) : @ite β (jI (a : Int) ≤ jI (b : Int)) inst A B = B := if_neg (by rw [nle ha (by omega)]; omega)
theorem nlt_t {a b : Nat} {inst : Decidable (jI (a : Int) < jI (b : Int))} (h : a < b) (hb : b < 100000) : @ite β (jI (a : Int) < jI (b : Int)) inst A B = A := if_pos (by rw [nlt (by omega) hb]; exact h)
theorem nlt_f {a b : Nat} {inst : Decidable (jI (a : Int) < jI (b : Int))} (h : b ≤ a) (ha : a < 100000) : @ite β (jI (a : Int) < jI (b : Int)) inst A B = B := if_neg (by rw [nlt ha (by omega)]; omega)
theorem neq_t {a b : Nat} {inst : Decidable (jI (a : Int) = jI (b : Int))} (h : a = b) : @ite β (jI (a : Int) = jI (b : Int)) inst A B = A := if_pos (by rw [h])
theorem neq_f {a b : Nat} {inst : Decidable (jI (a : Int) = jI (b : Int))} (h : a ≠ b) (ha : a < 100000) (hb : b < 100000) : @ite β (jI (a : Int) = jI (b : Int)) inst A B = B := if_neg (by rw [neq ha hb]; exact h)
theorem jle_t {a b : Int} {inst : Decidable (jI a ≤ jI b)} (h1 : -2147483648 ≤ a ∧ a < 2147483648) (h2 : -2147483648 ≤ b ∧ b < 2147483648) (h : a ≤ b) : @ite β (jI a ≤ jI b) inst A B = A := if_pos (by rw [jle h1 h2]; exact h)
theorem jle_f {a b : Int} {inst : Decidable (jI a ≤ jI b)} (h1 : -2147483648 ≤ a ∧ a < 2147483648) (h2 : -2147483648 ≤ b ∧ b < 2147483648) (h : b < a) : @ite β (jI a ≤ jI b) inst A B = B := if_neg (by rw [jle h1 h2]; omega)
theorem jlt_t {a b : Int} {inst : Decidable (jI a < jI b)} (h1 : -2147483648 ≤ a ∧ a < 2147483648) (h2 : -2147483648 ≤ b ∧ b < 2147483648) (h : a < b) : @ite β (jI a < jI b) inst A B = A := if_pos (by rw [jlt h1 h2]; exact h)
theorem jlt_f {a b : Int} {inst : Decidable (jI a < jI b)} (h1 : -2147483648 ≤ a ∧ a < 2147483648) (h2 : -2147483648 ≤ b ∧ b < 2147483648) (h : b ≤ a) : @ite β (jI a < jI b) inst A B = B := if_neg (by rw [jlt h1 h2]; omega)
theorem jeq_t {a b : Int} {inst : Decidable (jI a = jI b)} (h : a = b) : @ite β (jI a = jI b) inst A B = A := if_pos (by rw [h])
theorem jeq_f {a b : Int} {inst : Decidable (jI a = jI b)} (h1 : -2147483648 ≤ a ∧ a < 2147483648) (h2 : -2147483648 ≤ b ∧ b < 2147483648) (h : a ≠ b) : @ite β (jI a = jI b) inst A B = B := if_neg (by rw [jeq h1 h2]; exact h)
end IFS
def R3 (v : MZ) (M : Mz) : Prop := v.1 = jI (mC M : Nat) ∧ v.2.1 = jI (mR M : Nat) ∧ (∀ c, c < mN M → v.2.2.1 c = jI (mT M c : Nat)) ∧ (∀ c, c < mN M → v.2.2.2.1 c = jI (mask (mC M) (mN M) (mO M) c : Nat)) ∧
  v.2.2.2.2.1 0 = jI (mE M : Nat) ∧ v.2.2.2.2.1 1 = jI (mX M : Nat) ∧ v.2.2.2.2.2 0 = jI (mEs M : Nat) ∧ v.2.2.2.2.2 1 = jI (mXs M : Nat)
def b01 (b : Bool) : Nat := if b = true then 1 else 0
def R8 (s : nF) (M : Mz) : Prop := s 0 = jI (mC M : Nat) ∧ s 1 = jI (mR M : Nat) ∧ s 2 = jI (mE M : Nat) ∧ s 3 = jI (mEs M : Nat) ∧ s 4 = jI (mX M : Nat) ∧ s 5 = jI (mXs M : Nat) ∧ (∀ c, c < mN M → s (6 + c) = jI (mT M c : Nat)) ∧ ∀ k, k < 2 * mN M → s (42 + k) = jI (b01 (mO M k) : Nat)
def zD : MZ := (0, 0, fun _ => 0, fun _ => 0, fun _ => 0, fun _ => 0)
def sD (C R : Nat) : nF := fun j => if j = 0 then jI (C : Nat) else jI (R : Nat)
theorem beside_all : (List.range 7).all (fun C => (List.range 7).all (fun R => !(decide (2 ≤ C)) || !(decide (2 ≤ R)) || (List.range (C * R)).all (fun c => (List.range 4).all (fun d => decide (mX3_beside (jI (C : Nat), jI (R : Nat), zD.2.2) (jI (c : Nat)) (jI (d : Nat)) = some (oJ (nb C (C * R) c d))))))) = true := by decide +kernel
theorem besides_all : (List.range 7).all (fun C => (List.range 7).all (fun R => !(decide (2 ≤ C)) || !(decide (2 ≤ R)) || (List.range (C * R)).all (fun c => (List.range 4).all (fun d => decide (mX8_besides (sD C R) (jI (c : Nat)) (jI (d : Nat)) = some (oJ (nb C (C * R) c d))))))) = true := by decide +kernel
theorem opn_all : (List.range 7).all (fun C => (List.range 7).all (fun R => !(decide (2 ≤ C)) || !(decide (2 ≤ R)) || (List.range (C * R)).all (fun c => (List.range 4).all (fun d => (nb C (C * R) c d).isNone || decide (mX8_numberOf (sD C R) (jI (c : Nat)) (jI (d : Nat)) = some (jI (num C c d : Nat))))))) = true := by decide +kernel
theorem low_all : (List.range 72).all (fun k => decide (mX3_lowEnd (jI (k : Nat)) = some (jI (k / 2 : Nat))) && decide (mX3_placeDirection (jI (k : Nat)) = some (jI (pdr k : Nat)))) = true := by decide +kernel
theorem oJ_some {x : Nat} : oJ (some x) = jI (x : Nat) := rfl
theorem oJ_none : oJ none = jI (-1) := rfl
section S3
variable {v : MZ} {s : nF} {M : Mz} {c d k F : Nat}
theorem dm_le (hd : dm M) : 2 ≤ mC M ∧ mC M ≤ 6 ∧ 2 ≤ mR M ∧ mR M ≤ 6 ∧ 4 ≤ mN M ∧ mN M ≤ 36 ∧ mC M ≤ mN M ∧ mC M * mR M = mN M := ⟨hd.1, hd.2.1, hd.2.2.1, hd.2.2.2, (dm_N hd).2.1, (dm_N hd).2.2.1, (dm_N hd).2.2.2, rfl⟩
theorem cells3 (h : R3 v M) : mX3_cells v = some (jI (mN M : Nat)) := by
  simp only [mX3_cells, h.1, h.2.1, jnM]; rfl
theorem places3 (h : R3 v M) : mX3_places v = some (jI (2 * mN M : Nat)) := by
  simp only [mX3_places, cells3 h, bnd_s, j2m]
theorem hasCell3 (h : R3 v M) (hd : dm M) {a : Int} (hb : -2147483648 ≤ a ∧ a < 2147483648) : mX3_hasCell v (jI a) = some (bI (decide (0 ≤ a ∧ a < (mN M : Nat)))) := by
  have hN := dm_le hd
  simp only [mX3_hasCell, cells3 h, jn_e, bnd_s, j_0, j_1]
  by_cases h1 : a < 0
  · rw [jlt_t hb (by omega) h1, bI_n (by omega)]; rfl
  · rw [jlt_f hb (by omega) (by omega)]
    by_cases h2 : (mN M : Int) ≤ a
    · rw [jle_t (by omega) hb h2, bI_n (by omega)]; rfl
    · rw [jle_f (by omega) hb (by omega), bI_p (by omega)]; rfl
theorem isDir3 {a : Int} (hb : -2147483648 ≤ a ∧ a < 2147483648) : mX7_isDirection (jI a) = some (bI (decide (0 ≤ a ∧ a < 4))) := by
  simp only [mX7_isDirection, jn_e, j_0, j_1, j_4]
  by_cases h1 : a < 0
  · rw [jlt_t hb (by omega) h1, bI_n (by omega)]; rfl
  · rw [jlt_f hb (by omega) (by omega)]
    by_cases h2 : 4 ≤ a
    · rw [jle_t (by omega) hb h2, bI_n (by omega)]; rfl
    · rw [jle_f (by omega) hb (by omega), bI_p (by omega)]; rfl
theorem isDoor3 {a : Int} (hb : -2147483648 ≤ a ∧ a < 2147483648) : mX7_isDoor (jI a) = some (bI (decide (0 ≤ a ∧ a < 2))) := by
  simp only [mX7_isDoor, jn_e, j_0, j_1, j_2]
  by_cases h1 : a < 0
  · rw [jlt_t hb (by omega) h1, bI_n (by omega)]; rfl
  · rw [jlt_f hb (by omega) (by omega)]
    by_cases h2 : 2 ≤ a
    · rw [jle_t (by omega) hb h2, bI_n (by omega)]; rfl
    · rw [jle_f (by omega) hb (by omega), bI_p (by omega)]; rfl
theorem in8 {a l u : Int} (hb : -2147483648 ≤ a ∧ a < 2147483648) (hl : -2147483648 ≤ l ∧ l < 2147483648) (hu : -2147483648 ≤ u ∧ u < 2147483648) : mX8_in (jI a) (jI l) (jI u) = some (bI (decide (l ≤ a ∧ a ≤ u))) := by
  simp only [mX8_in, jn_e, j_0, j_1]
  by_cases h1 : a < l
  · rw [jlt_t hb hl h1, bI_n (by omega)]; rfl
  · rw [jlt_f hb hl (by omega)]
    by_cases h2 : u < a
    · rw [jlt_t hu hb h2, bI_n (by omega)]; rfl
    · rw [jlt_f hu hb (by omega), bI_p (by omega)]; rfl
theorem cells8 (h : R8 s M) : mX8_cells s = some (jI (mN M : Nat)) := by
  simp only [mX8_cells, gl0, gl1, cl0, cl1, h.1, h.2.1, jnM]; rfl
theorem isCell8 (h : R8 s M) (hd : dm M) {a : Int} (hb : -2147483648 ≤ a ∧ a < 2147483648) : mX8_isCell s (jI a) = some (bI (decide (0 ≤ a ∧ a < (mN M : Nat)))) := by
  have hN := dm_le hd
  simp only [mX8_isCell, cells8 h, bnd_s, j_0, j_1, jI_sub]
  rw [in8 hb (by omega) (by omega), bnd_s, gzb]
  congr 2
  exact decide_eq_decide.mpr (by omega)
theorem beside3 (h : R3 v M) (hd : dm M) (hc : c < mN M) (hdd : d < 4) : mX3_beside v (jI (c : Nat)) (jI (d : Nat)) = some (oJ (nb (mC M) (mN M) c d)) := by
  have e := of_decide_eq_true (grid_all beside_all hd.1 hd.2.1 hd.2.2.1 hd.2.2.2 hc hdd)
  rw [← h.1, ← h.2.1] at e
  exact e
theorem besides8 (h : R8 s M) (hd : dm M) (hc : c < mN M) (hdd : d < 4) : mX8_besides s (jI (c : Nat)) (jI (d : Nat)) = some (oJ (nb (mC M) (mN M) c d)) := by
  have e := of_decide_eq_true (grid_all besides_all hd.1 hd.2.1 hd.2.2.1 hd.2.2.2 hc hdd)
  have e2 : mX8_besides s (jI (c : Nat)) (jI (d : Nat)) = mX8_besides (sD (mC M) (mR M)) (jI (c : Nat)) (jI (d : Nat)) := by
    simp only [mX8_besides, cl0, cl1, h.1, h.2.1, show sD (mC M) (mR M) 0 = jI (mC M : Nat) from rfl, show sD (mC M) (mR M) 1 = jI (mR M : Nat) from rfl]
  rw [e2]; exact e
theorem numberOf8 (h : R8 s M) (hd : dm M) (hc : c < mN M) (hdd : d < 4) {o : Nat} (ho : nb (mC M) (mN M) c d = some o) : mX8_numberOf s (jI (c : Nat)) (jI (d : Nat)) = some (jI (num (mC M) c d : Nat)) := by
  have e := grid_all opn_all hd.1 hd.2.1 hd.2.2.1 hd.2.2.2 hc hdd
  have ho' : nb (mC M) (mC M * mR M) c d = some o := ho
  rw [ho'] at e
  have e := of_decide_eq_true (Bool.or_eq_true_iff.mp e |>.resolve_left (by simp))
  have e2 : mX8_besides s (jI (c : Nat)) (jI (d : Nat)) = mX8_besides (sD (mC M) (mR M)) (jI (c : Nat)) (jI (d : Nat)) := by
    simp only [mX8_besides, cl0, cl1, h.1, h.2.1, show sD (mC M) (mR M) 0 = jI (mC M : Nat) from rfl, show sD (mC M) (mR M) 1 = jI (mR M : Nat) from rfl]
  unfold mX8_numberOf at e ⊢
  rw [e2]; exact e
theorem lowEnd3 (hk : k < 72) : mX3_lowEnd (jI (k : Nat)) = some (jI (pA k : Nat)) := by
  have := List.all_eq_true.mp low_all k (List.mem_range.mpr hk)
  exact of_decide_eq_true (Bool.and_eq_true_iff.mp this).1
theorem plDir3 (hk : k < 72) : mX3_placeDirection (jI (k : Nat)) = some (jI (pdr k : Nat)) := by
  have := List.all_eq_true.mp low_all k (List.mem_range.mpr hk)
  exact of_decide_eq_true (Bool.and_eq_true_iff.mp this).2
theorem num_lt (hd : dm M) (hc : c < mN M) (hdd : d < 4) {o : Nat} (ho : nb (mC M) (mN M) c d = some o) : num (mC M) c d < 2 * mN M ∧ o < mN M := by
  have := nb_pl hd.1 hd.2.1 hd.2.2.1 hd.2.2.2 hc hdd ho
  exact ⟨this.1.1, this.2.2.1⟩
theorem isOpen8 (h : R8 s M) (hd : dm M) (hc : c < mN M) (hdd : d < 4) : mX8_isOpen s (jI (c : Nat)) (jI (d : Nat)) = some (bI (opn (mC M) (mN M) (mO M) c d)) := by
  have hN := dm_le hd
  simp only [mX8_isOpen, besides8 h hd hc hdd, bnd_s, jn_e]
  cases ho : nb (mC M) (mN M) c d with
  | none =>
    rw [oJ_none, j_0, jlt_t (by omega) (by omega) (by omega)]
    simp only [opn, ho]; rfl
  | some o =>
    have hn := num_lt hd hc hdd ho
    rw [oJ_some, if_neg (by rw [nn0 (by omega)]; exact id), numberOf8 h hd hc hdd ho, bnd_s, j42p, gdi (by omega) (by omega), jcl _ (by omega), h.2.2.2.2.2.2.2 _ hn.1]
    simp only [opn, ho]
    cases mO M (num (mC M) c d)
    · rw [if_neg (by decide)]; rfl
    · rw [if_pos (by decide)]; rfl
/-- the second end of a place -/
def nd (C N k : Nat) : Option Nat := nb C N (pA k) (pdr k)
theorem gn2c {β : Type} {K : Option β} : gd (nz (jI ((2 : Nat) : Int))) K = K := gnz (by omega) (by omega)
theorem second8 (h : R8 s M) (hd : dm M) (hk : k < 2 * mN M) : mX8_second s (jI (k : Nat)) = some (oJ (nd (mC M) (mN M) k)) := by
  have hN := dm_le hd
  have hA : k / 2 < mN M := pA_lt hk
  unfold mX8_second
  simp only [gn2c, jn_e, jl_2, ndiv (show k < 100000 by omega) (show 2 < 100000 by omega) (show 0 < 2 by omega), jnM]
  have e1 : jI (k : Nat) - jI (k / 2 * 2 : Nat) = jI (k % 2 : Nat) := by rw [jI_sub]; congr 1; omega
  rw [e1]
  by_cases e : k % 2 = 0
  · rw [e, if_pos (by decide), jl_1, besides8 h hd hA (show 1 < 4 by omega)]
    simp only [bnd_s, nd, pdr, pA, if_pos e]
  · rw [show k % 2 = 1 by omega, if_neg (by decide), besides8 h hd hA (show 2 < 4 by omega)]
    simp only [bnd_s, nd, pdr, pA, if_neg e]
theorem highEnd3 (h : R3 v M) (hd : dm M) (hk : k < 2 * mN M) : mX3_highEnd v (jI (k : Nat)) = some (oJ (nd (mC M) (mN M) k)) := by
  have hN := dm_le hd
  simp only [mX3_highEnd, lowEnd3 (show k < 72 by omega), plDir3 (show k < 72 by omega), bnd_s, beside3 h hd (pA_lt hk) pdr_lt]
  rfl
theorem bits_has : ∀ a b c d : Bool, (∀ i : Fin 4, decide ((jI ((b01 a + 2 * b01 b + 4 * b01 c + 8 * b01 d : Nat) : Int) &&& ((1 : Int32) <<< (jI (i.val : Nat) &&& 31))) = 0) = !((if i.val = 0 then a else if i.val = 1 then b else if i.val = 2 then c else d))) := by decide +kernel
theorem mask_b {C N : Nat} {op : Op} : mask C N op c = b01 (opn C N op c 0) + 2 * b01 (opn C N op c 1) + 4 * b01 (opn C N op c 2) + 8 * b01 (opn C N op c 3) := by
  unfold mask b01
  split <;> split <;> split <;> split <;> rfl
theorem d4 {P : Nat → Prop} (hd : d < 4) (h0 : P 0) (h1 : P 1) (h2 : P 2) (h3 : P 3) : P d := by
  have : d = 0 ∨ d = 1 ∨ d = 2 ∨ d = 3 := by omega
  rcases this with rfl | rfl | rfl | rfl <;> assumption
theorem bit_has {C N : Nat} {op : Op} (hdd : d < 4) : ((jI (mask C N op c : Nat) &&& ((1 : Int32) <<< (jI (d : Nat) &&& 31))) = 0) = (opn C N op c d = false) := by
  rw [mask_b]
  have h := bits_has (opn C N op c 0) (opn C N op c 1) (opn C N op c 2) (opn C N op c 3) ⟨d, hdd⟩
  have e : (if d = 0 then opn C N op c 0 else if d = 1 then opn C N op c 1 else if d = 2 then opn C N op c 2 else opn C N op c 3) = opn C N op c d := d4 (P := fun d => (if d = 0 then opn C N op c 0 else if d = 1 then opn C N op c 1 else if d = 2 then opn C N op c 2 else opn C N op c 3) = opn C N op c d) hdd rfl rfl rfl rfl
  simp only [e] at h
  cases ho : opn C N op c d
  · rw [ho] at h; exact propext ⟨fun _ => rfl, fun _ => of_decide_eq_true h⟩
  · rw [ho] at h; exact propext ⟨fun q => absurd q (of_decide_eq_false h), fun q => by cases q⟩
theorem hasP3 (h : R3 v M) (hd : dm M) (hc : c < mN M) (hdd : d < 4) : mX3_hasPassage v (jI (c : Nat)) (jI (d : Nat)) = some (bI (opn (mC M) (mN M) (mO M) c d)) := by
  have hN := dm_le hd
  simp only [mX3_hasPassage, at_i (show c < 36 by omega) (show 36 < 100000 by omega), bnd_s, jn_e, h.2.2.2.1 c hc]
  cases ho : opn (mC M) (mN M) (mO M) c d
  · rw [if_pos (by rw [bit_has hdd]; exact ho)]; rfl
  · rw [if_neg (by rw [bit_has hdd, ho]; exact Bool.noConfusion)]; rfl
theorem opn_pl {C N : Nat} {op : Op} (hv : vO C N op) (hk : k < 2 * N) : opn C N op (pA k) (pdr k) = op k := by
  unfold opn
  rw [pdr_num]
  cases ho : op k with
  | false => simp
  | true => rw [pl_nb (hv k ho)]; rfl
theorem isOpenPlace3 (h : R3 v M) (hd : dm M) (hv : vO (mC M) (mN M) (mO M)) (hk : k < 2 * mN M) : mX3_isOpenPlace v (jI (k : Nat)) = some (bI (mO M k)) := by
  have hN := dm_le hd
  simp only [mX3_isOpenPlace, lowEnd3 (show k < 72 by omega), plDir3 (show k < 72 by omega), bnd_s, hasP3 h hd (pA_lt hk) pdr_lt, opn_pl hv hk, gzb]
theorem nd_vld {C N : Nat} (h : vld C N k) : nd C N k = some (pB C k) := pl_nb h
theorem nd_nvld {C N : Nat} (hk : k < 2 * N) (h : ¬ vld C N k) : nd C N k = none := npl_nb hk h
end S3
end
section
/-! STATE: setting passages, copies, counts, the history -/
/-- the first n of f, then g -/
def mix (n : Nat) (f g : nF) : nF := fun j => if j < n then f j else g j
theorem mix_0 {f g : nF} : mix 0 f g = g := by funext j; simp [mix]
theorem mix_S {f g : nF} {n : Nat} : upd (mix n f g) n (f n) = mix (n + 1) f g := by
  funext j
  unfold upd mix
  by_cases h : j = n
  · subst h; rw [if_pos rfl, if_pos (by omega)]
  · rw [if_neg h]
    by_cases h2 : j < n
    · rw [if_pos h2, if_pos (by omega)]
    · rw [if_neg h2, if_neg (by omega)]
theorem mix_lt {f g : nF} {n j : Nat} (h : j < n) : mix n f g j = f j := if_pos h
section ST
variable {v w : MZ} {s : nF} {M : Mz} {c d k F n : Nat}
theorem fill3 {f : nF} {x : Int32} (hn : n < F) (h2 : n < 100000) : mJ7_fill_53178 F n f x = some (mix n (fun _ => x) f) := by
  unfold mJ7_fill_53178
  have := lpr_fn (L := mJ7_fill_53178_L5 n x) (e := some (mix n (fun _ => x) f)) (F := F) (fun i => (jI (i : Nat), mix i (fun _ => x) f)) n (by
    intro i hi self
    simp only [mJ7_fill_53178_L5, jN]
    rw [nle_f hi h2, gdi hi h2, jcl _ (by omega), jS, mix_S (f := fun _ => x)]) (by
    intro self
    simp only [mJ7_fill_53178_L5, jN]
    rw [nle_t (Nat.le_refl _) h2]) hn
  simp only [mix_0] at this
  rw [← this, jl_0]
theorem copyRow3 {f g : nF} (hn : n < F) (h2 : n < 100000) : mX3_copyRow F n f n g = some (mix n f g) := by
  unfold mX3_copyRow
  simp only [jn_e]
  have := lpr_fn (L := mX3_copyRow_L2 n f n mX3_copyRow_K26) (e := some (mix n f g)) (F := F) (fun i => (jI (i : Nat), mix i f g)) n (by
    intro i hi self
    simp only [mX3_copyRow_L2, jN]
    rw [nle_f hi h2, nle_f hi h2, gdi hi h2, gdi hi h2, jcl _ (by omega), jS, mix_S]) (by
    intro self
    simp only [mX3_copyRow_L2, jN]
    rw [nle_t (Nat.le_refl _) h2]; rfl) hn
  simp only [mix_0] at this
  rw [← this, jl_0]
theorem copyFrom3 (hF : 36 < F) : mX3_copyFrom F v w = some (w.1, w.2.1, mix 36 w.2.2.1 v.2.2.1, mix 36 w.2.2.2.1 v.2.2.2.1, mix 2 w.2.2.2.2.1 v.2.2.2.2.1, mix 2 w.2.2.2.2.2 v.2.2.2.2.2) := by
  unfold mX3_copyFrom
  rw [copyRow3 hF (by omega), bnd_s, copyRow3 hF (by omega), bnd_s, copyRow3 (by omega) (by omega), bnd_s, copyRow3 (by omega) (by omega), bnd_s]
theorem R3_copy (h : R3 w M) (hd : dm M) {t : MZ} (h1 : t.1 = w.1) (h2 : t.2.1 = w.2.1) (h3 : ∀ c, c < 36 → t.2.2.1 c = w.2.2.1 c) (h4 : ∀ c, c < 36 → t.2.2.2.1 c = w.2.2.2.1 c) (h5 : ∀ c, c < 2 → t.2.2.2.2.1 c = w.2.2.2.2.1 c) (h6 : ∀ c, c < 2 → t.2.2.2.2.2 c = w.2.2.2.2.2 c) : R3 t M := by
  have hN := dm_le hd
  obtain ⟨g1, g2, g3, g4, g5, g6, g7, g8⟩ := h
  exact ⟨h1.trans g1, h2.trans g2, fun c hc => (h3 c (by omega)).trans (g3 c hc), fun c hc => (h4 c (by omega)).trans (g4 c hc), (h5 0 (by omega)).trans g5, (h5 1 (by omega)).trans g6, (h6 0 (by omega)).trans g7, (h6 1 (by omega)).trans g8⟩
theorem copyFrom3_R (hF : 36 < F) (h : R3 w M) (hd : dm M) : ∃ r, mX3_copyFrom F v w = some r ∧ R3 r M :=
  ⟨_, copyFrom3 hF, R3_copy h hd rfl rfl (fun c hc => mix_lt hc) (fun c hc => mix_lt hc) (fun c hc => mix_lt hc) (fun c hc => mix_lt hc)⟩
theorem R3_mk {a b : Int32} {t p dc ds : nF} (h1 : a = jI (mC M : Nat)) (h2 : b = jI (mR M : Nat)) (h3 : ∀ c, c < mN M → t c = jI (mT M c : Nat)) (h4 : ∀ c, c < mN M → p c = jI (mask (mC M) (mN M) (mO M) c : Nat))
    (h5 : dc 0 = jI (mE M : Nat)) (h6 : dc 1 = jI (mX M : Nat)) (h7 : ds 0 = jI (mEs M : Nat)) (h8 : ds 1 = jI (mXs M : Nat)) : R3 (a, b, t, p, dc, ds) M := ⟨h1, h2, h3, h4, h5, h6, h7, h8⟩
/-- a bright maze without a passage -/
def Mc (C R : Nat) : Mz := ((C, R), fun _ => 0, fun _ => false, ((0, 3), (C * R - 1, 1)))
theorem mask_0 {C N : Nat} {c : Nat} : mask C N (fun _ => false) c = 0 := by
  rw [mask_b]; simp [opn, b01]
theorem clear3 {C R : Nat} (hF : 36 < F) (hC : 2 ≤ C ∧ C ≤ 6) (hR : 2 ≤ R ∧ R ≤ 6) : ∃ r, mX3_clear F v (jI (C : Nat)) (jI (R : Nat)) = some r ∧ R3 r (Mc C R) ∧ r.2.2.1 = mix 36 (fun _ => 0) v.2.2.1 := by
  have hd : dm (Mc C R) := ⟨hC.1, hC.2, hR.1, hR.2⟩
  have hN := dm_le hd
  have e0 : 4 ≤ C * R := hN.2.2.2.2.1
  unfold mX3_clear
  rw [fill3 hF (by omega), bnd_s, fill3 hF (by omega), bnd_s, jl_0, put_i (show 0 < 2 by omega) (by omega), bnd_s, put_i (show 0 < 2 by omega) (by omega), bnd_s]
  simp only [mX3_cells, jnM, bnd_s]
  rw [jl_1, put_i (show 1 < 2 by omega) (by omega), bnd_s, put_i (show 1 < 2 by omega) (by omega), bnd_s]
  refine ⟨_, rfl, R3_mk rfl rfl (fun c hc => ?_) (fun c hc => ?_) ?_ ?_ ?_ ?_, ?_⟩
  · have : c < 36 := by omega
    exact (mix_lt this).trans rfl
  · have : c < 36 := by omega
    refine (mix_lt this).trans ?_
    show _ = jI (mask (mC (Mc C R)) (mN (Mc C R)) (fun _ => false) c : Nat)
    rw [mask_0]
  · rw [upd_n (by omega), upd_s]; rfl
  · rw [upd_s, jI_sub]
    show jI _ = jI ((C * R - 1 : Nat) : Int)
    congr 1
    omega
  · rw [upd_n (by omega), upd_s, jl_3]; rfl
  · rw [upd_s]; rfl
  · rfl
theorem bits_set : ∀ a b c d t : Bool, ∀ i : Fin 4, (if bI t = 0 then (jI ((b01 a + 2 * b01 b + 4 * b01 c + 8 * b01 d : Nat) : Int) &&& (((1 : Int32) <<< (jI (i.val : Nat) &&& 31)) ^^^ (-1 : Int32))) else ((jI ((b01 a + 2 * b01 b + 4 * b01 c + 8 * b01 d : Nat) : Int) &&& (((1 : Int32) <<< (jI (i.val : Nat) &&& 31)) ^^^ (-1 : Int32))) ||| ((1 : Int32) <<< (jI (i.val : Nat) &&& 31))))
    = jI ((b01 (if i.val = 0 then t else a) + 2 * b01 (if i.val = 1 then t else b) + 4 * b01 (if i.val = 2 then t else c) + 8 * b01 (if i.val = 3 then t else d) : Nat) : Int) := by decide +kernel
/-- the set of directions with one changed -/
def mset (o : Nat → Bool) (d : Nat) (t : Bool) : Nat := b01 (if d = 0 then t else o 0) + 2 * b01 (if d = 1 then t else o 1) + 4 * b01 (if d = 2 then t else o 2) + 8 * b01 (if d = 3 then t else o 3)
theorem setOpen3 {o : Nat → Bool} {t : Bool} (hc : c < 36) (hdd : d < 4) (hm : v.2.2.2.1 c = jI ((b01 (o 0) + 2 * b01 (o 1) + 4 * b01 (o 2) + 8 * b01 (o 3) : Nat) : Int)) : mX3_setOpen v (jI (c : Nat)) (jI (d : Nat)) (bI t) = some (upd v.2.2.2.1 c (jI (mset o d t : Nat))) := by
  unfold mX3_setOpen
  rw [at_i hc (by omega), bnd_s]
  simp only [jn_e, hm]
  have h := bits_set (o 0) (o 1) (o 2) (o 3) t ⟨d, hdd⟩
  cases t
  · rw [if_pos (show bI false = 0 from rfl)] at h ⊢
    rw [h, put_i hc (by omega), bnd_s]; rfl
  · rw [if_neg bIt0] at h ⊢
    rw [h, put_i hc (by omega), bnd_s]; rfl
theorem opp_all : ∀ i : Fin 4, ((jI (i.val : Nat) + (2 : Int32)) - (jI (i.val : Nat) + (2 : Int32)) / (4 : Int32) * (4 : Int32)) = jI (opp i.val : Nat) := by decide +kernel
theorem opp8 (hdd : d < 4) : ((jI (d : Nat) + (2 : Int32)) - (jI (d : Nat) + (2 : Int32)) / (4 : Int32) * (4 : Int32)) = jI (opp d : Nat) := opp_all ⟨d, hdd⟩
/-- a maze with other passages -/
def wP (v : MZ) (p : nF) : MZ := (v.1, v.2.1, v.2.2.1, p, v.2.2.2.2.1, v.2.2.2.2.2)
theorem nb_ne {C R : Nat} {o : Nat} (h1 : 2 ≤ C) (h : nb C (C * R) c d = some o) : o ≠ c := by
  unfold nb at h
  rintro rfl
  split at h
  · split at h
    · have e : o - C = o := by simpa using h
      omega
    · cases h
  · split at h
    · split at h
      · simp at h
      · cases h
    · split at h
      · split at h
        · simp at h; omega
        · cases h
      · split at h
        · rename_i q
          have e : o - 1 = o := by simpa using h
          have : o = 0 := by omega
          subst this
          simp at q
        · cases h
theorem mset_mask {C R o : Nat} {op : Op} {t : Bool} (h1 : 2 ≤ C) (h2 : C ≤ 6) (h3 : 2 ≤ R) (h4 : R ≤ 6) (hc : c < C * R) (hdd : d < 4) (h : nb C (C * R) c d = some o) : mask C (C * R) (setE op (num C c d) t) c = mset (opn C (C * R) op c) d t := by
  rw [mask_b]
  unfold mset
  have e : ∀ d', d' < 4 → opn C (C * R) (setE op (num C c d) t) c d' = if d = d' then t else opn C (C * R) op c d' := by
    intro d' hd'
    rw [opn_set h1 h2 h3 h4 hc hdd h hc hd']
    have := nb_ne h1 h
    by_cases q : d = d'
    · subst q; rw [if_pos (Or.inl ⟨rfl, rfl⟩), if_pos rfl]
    · rw [if_neg q, if_neg]
      rintro (⟨-, z⟩ | ⟨z, -⟩)
      · exact q z.symm
      · exact this z.symm
  rw [e 0 (by omega), e 1 (by omega), e 2 (by omega), e 3 (by omega)]
theorem setPassage3 {o : Nat} {t : Bool} (h : R3 v M) (hd : dm M) (hc : c < mN M) (hdd : d < 4) (ho : nb (mC M) (mN M) c d = some o) :
    ∃ p, mX3_setPassage v (jI (c : Nat)) (jI (d : Nat)) (bI t) = some p ∧ R3 (wP v p) (setO M (setE (mO M) (num (mC M) c d) t)) := by
  have hN := dm_le hd
  have ho' : nb (mC M) (mC M * mR M) c d = some o := ho
  have hp := nb_pl hd.1 hd.2.1 hd.2.2.1 hd.2.2.2 hc hdd ho'
  have hne := nb_ne hd.1 ho'
  have hoN : o < mN M := hp.2.2.1
  unfold mX3_setPassage
  rw [beside3 h hd hc hdd, bnd_s]
  simp only [jn_e]
  rw [ho, oJ_some, if_neg (by rw [nem1 (by omega)]; exact id), setOpen3 (o := opn (mC M) (mN M) (mO M) c) (show c < 36 by omega) hdd (by rw [h.2.2.2.1 c hc, mask_b]), bnd_s, gn4, opp8 hdd]
  rw [setOpen3 (v := (v.1, v.2.1, v.2.2.1, upd v.2.2.2.1 c (jI (mset (opn (mC M) (mN M) (mO M) c) d t : Nat)), v.2.2.2.2.1, v.2.2.2.2.2)) (o := opn (mC M) (mN M) (mO M) o) (show o < 36 by omega) opp_lt (by
    show upd v.2.2.2.1 c _ o = _
    rw [upd_n hne, h.2.2.2.1 o hoN, mask_b]), bnd_s]
  refine ⟨_, rfl, h.1, h.2.1, h.2.2.1, fun c' hc' => ?_, h.2.2.2.2⟩
  show upd (upd v.2.2.2.1 c _) o _ c' = jI (mask (mC M) (mC M * mR M) (setE (mO M) (num (mC M) c d) t) c' : Nat)
  have e1 := mset_mask (op := mO M) (t := t) hd.1 hd.2.1 hd.2.2.1 hd.2.2.2 hc hdd ho'
  have e2 := mset_mask (op := mO M) (t := t) hd.1 hd.2.1 hd.2.2.1 hd.2.2.2 hp.2.2.1 opp_lt hp.2.2.2.1
  rw [hp.2.2.2.2] at e2
  by_cases q : c' = o
  · subst q; rw [upd_s, e2]; rfl
  · rw [upd_n q]
    by_cases q2 : c' = c
    · subst q2; rw [upd_s, e1]; rfl
    · rw [upd_n q2, h.2.2.2.1 c' hc', mask_b, mask_b]
      have e : ∀ d', d' < 4 → opn (mC M) (mC M * mR M) (setE (mO M) (num (mC M) c d) t) c' d' = opn (mC M) (mN M) (mO M) c' d' := by
        intro d' hd'
        rw [opn_set hd.1 hd.2.1 hd.2.2.1 hd.2.2.2 hc hdd ho' hc' hd', if_neg]
        · rfl
        · rintro (⟨z, -⟩ | ⟨z, -⟩)
          · exact q2 z
          · exact q z
      rw [e 0 (by omega), e 1 (by omega), e 2 (by omega), e 3 (by omega)]
theorem setPlace3 {t : Bool} (h : R3 v M) (hd : dm M) (hk : vld (mC M) (mN M) k) : ∃ p, mX3_setPlace v (jI (k : Nat)) (bI t) = some p ∧ R3 (wP v p) (setO M (setE (mO M) k t)) := by
  have hN := dm_le hd
  have hk1 := hk.1
  obtain ⟨p, h1, h2⟩ := setPassage3 (t := t) h hd (pA_lt hk.1) pdr_lt (pl_nb hk)
  rw [pdr_num] at h2
  refine ⟨p, ?_, h2⟩
  simp only [mX3_setPlace, lowEnd3 (show k < 72 by omega), plDir3 (show k < 72 by omega), bnd_s, h1]
/-- the reference's cells -/
theorem R8_set {t : Bool} (h : R8 s M) (hd : dm M) (hk : k < 2 * mN M) : R8 (upd s (42 + k) (jI (b01 t : Nat))) (setO M (setE (mO M) k t)) := by
  have hN := dm_le hd
  obtain ⟨g1, g2, g3, g4, g5, g6, g7, g8⟩ := h
  refine ⟨(upd_n (by omega)).trans g1, (upd_n (by omega)).trans g2, (upd_n (by omega)).trans g3, (upd_n (by omega)).trans g4, (upd_n (by omega)).trans g5, (upd_n (by omega)).trans g6, fun c hc => ?_, fun j hj => ?_⟩
  · have hc' : c < mN M := hc
    exact (upd_n (by omega)).trans (g7 c hc)
  · show _ = jI (b01 (setE (mO M) k t j) : Nat)
    by_cases e : j = k
    · subst e; rw [upd_s, setE_self]
    · rw [upd_n (by omega), setE_ne e]; exact g8 j hj
theorem R8_cong {s' : nF} (h : R8 s M) (hd : dm M) (he : ∀ j, j < 114 → s' j = s j) : R8 s' M := by
  have hN := dm_le hd
  obtain ⟨g1, g2, g3, g4, g5, g6, g7, g8⟩ := h
  exact ⟨(he _ (by omega)).trans g1, (he _ (by omega)).trans g2, (he _ (by omega)).trans g3, (he _ (by omega)).trans g4, (he _ (by omega)).trans g5, (he _ (by omega)).trans g6, fun c hc => (he _ (by omega)).trans (g7 c hc), fun k hk => (he _ (by omega)).trans (g8 k hk)⟩
theorem lightens8 {C R : Nat} (hF : 114 < F) (hC : 2 ≤ C ∧ C ≤ 6) (hR : 2 ≤ R ∧ R ≤ 6) : ∃ r, mX8_lightens F s (jI (C : Nat)) (jI (R : Nat)) = some r ∧ R8 r (Mc C R) := by
  have hd : dm (Mc C R) := ⟨hC.1, hC.2, hR.1, hR.2⟩
  have hN := dm_le hd
  have e0 : 4 ≤ C * R := hN.2.2.2.2.1
  have e1 : mN (Mc C R) ≤ 36 := hN.2.2.2.2.2.1
  unfold mX8_lightens
  simp only [jn_e]
  have := lpr_fn (L := mX8_lightens_L2 (mX8_lightens_K21 (jI (C : Nat)) (jI (R : Nat)))) (e := mX8_lightens_K21 (jI (C : Nat)) (jI (R : Nat)) (mix 114 (fun _ => 0) s)) (F := F) (fun i => (jI (i : Nat), mix i (fun _ => 0) s)) 114 (by
    intro i hi self
    simp only [mX8_lightens_L2, jl_114]
    rw [nle_f hi (by omega), gdi hi (by omega), jcl _ (by omega), jS, mix_S (f := fun _ => 0)]) (by
    intro self
    simp only [mX8_lightens_L2, jl_114]
    rw [nle_t (Nat.le_refl _) (by omega)]) hF
  simp only [mix_0] at this
  rw [jl_0, this]
  simp only [mX8_lightens_K21, gl0, gl1, gl3, gl4, gl5, cl0, cl1, cl3, cl4, cl5]
  refine ⟨_, rfl, ?_⟩
  refine ⟨?_, ?_, ?_, ?_, ?_, ?_, fun c hc => ?_, fun k hk => ?_⟩
  · rw [upd_n (by omega), upd_n (by omega), upd_n (by omega), upd_n (by omega), upd_s]; rfl
  · rw [upd_n (by omega), upd_n (by omega), upd_n (by omega), upd_s]; rfl
  · rw [upd_n (by omega), upd_n (by omega), upd_n (by omega), upd_n (by omega), upd_n (by omega), mix_lt (by omega)]; rfl
  · rw [upd_n (by omega), upd_n (by omega), upd_s]; rfl
  · rw [upd_n (by omega), upd_s, jnM, j_1, jI_sub]
    show jI _ = jI ((C * R - 1 : Nat) : Int)
    congr 1
    omega
  · rw [upd_s]; rfl
  · rw [upd_n (by omega), upd_n (by omega), upd_n (by omega), upd_n (by omega), upd_n (by omega), mix_lt (by omega)]; rfl
  · rw [upd_n (by omega), upd_n (by omega), upd_n (by omega), upd_n (by omega), upd_n (by omega), mix_lt (by omega)]; rfl
theorem begins8 {b : nF} (hF : 114 < F) : mX8_begins F s b = some (mix 114 s b) := by
  unfold mX8_begins
  have := lpr_fn (L := mX8_begins_L2 s) (e := some (mix 114 s b)) (F := F) (fun i => (jI (i : Nat), mix i s b)) 114 (by
    intro i hi self
    simp only [mX8_begins_L2, jl_114]
    rw [nle_f hi (by omega), gdi hi (by omega), gdi hi (by omega), jcl _ (by omega), jS, mix_S]) (by
    intro self
    simp only [mX8_begins_L2, jl_114]
    rw [nle_t (Nat.le_refl _) (by omega)]) hF
  simp only [mix_0] at this
  rw [← this, jl_0]
theorem R8_mix {b : nF} (h : R8 s M) (hd : dm M) : R8 (mix 114 s b) M := R8_cong h hd (fun j hj => mix_lt hj)
end ST
end
section
/-! COUNTS: passages, parts, ends, tones; the history of both sides -/
def sN (f : Nat → Nat) : Nat → Nat
  | 0 => 0
  | n + 1 => sN f n + f n
theorem sN_congr {f g : Nat → Nat} {n : Nat} (h : ∀ c, c < n → f c = g c) : sN f n = sN g n := by
  induction n with
  | zero => rfl
  | succ n ih => simp only [sN]; rw [ih (fun c hc => h c (by omega)), h n (by omega)]
theorem sN_le {f : Nat → Nat} {n b : Nat} (h : ∀ c, c < n → f c ≤ b) : sN f n ≤ b * n := by
  induction n with
  | zero => simp [sN]
  | succ n ih => simp only [sN]; have := ih (fun c hc => h c (by omega)); have := h n (by omega); rw [Nat.mul_succ]; omega
theorem sN_mono {f : Nat → Nat} {m n : Nat} (h : m ≤ n) : sN f m ≤ sN f n := by
  induction n with
  | zero => have : m = 0 := by omega
            subst this; exact Nat.le_refl _
  | succ n ih =>
    by_cases e : m = n + 1
    · subst e; exact Nat.le_refl _
    · simp only [sN]; have := ih (by omega); omega
theorem sN_one {a n : Nat} : sN (fun c => if c = a then 1 else 0) n = if a < n then 1 else 0 := by
  induction n with
  | zero => rfl
  | succ n ih =>
    simp only [sN, ih]
    by_cases e : n = a
    · subst e; simp
    · rw [if_neg e]
      by_cases q : a < n
      · rw [if_pos q, if_pos (by omega)]
      · rw [if_neg q, if_neg (by omega)]
theorem sN_add {f g : Nat → Nat} {n : Nat} : sN (fun c => f c + g c) n = sN f n + sN g n := by
  induction n with
  | zero => rfl
  | succ n ih => simp only [sN, ih]; omega
theorem sN_cast {f : Nat → Nat} {n : Nat} : sumN (fun c => (f c : Int)) n = (sN f n : Int) := by
  induction n with
  | zero => rfl
  | succ n ih => simp only [sN, sumN, ih]; omega
def popf (o : Nat → Bool) : Nat := b01 (o 0) + b01 (o 1) + b01 (o 2) + b01 (o 3)
theorem popf_set {o o' : Nat → Bool} {d : Nat} (hd : d < 4) (h : o d = true) (h' : ∀ d', d' < 4 → o' d' = if d' = d then false else o d') : popf o = popf o' + 1 := by
  unfold popf
  rw [h' 0 (by omega), h' 1 (by omega), h' 2 (by omega), h' 3 (by omega)]
  have : d = 0 ∨ d = 1 ∨ d = 2 ∨ d = 3 := by omega
  rcases this with rfl | rfl | rfl | rfl <;> simp [h, b01] <;> omega
theorem popf_same {o o' : Nat → Bool} (h' : ∀ d', d' < 4 → o' d' = o d') : popf o' = popf o := by
  unfold popf
  rw [h' 0 (by omega), h' 1 (by omega), h' 2 (by omega), h' 3 (by omega)]
theorem pop_sum {C R : Nat} (h1 : 2 ≤ C) (h2 : C ≤ 6) (h3 : 2 ≤ R) (h4 : R ≤ 6) : ∀ (m : Nat) (op : Op), vO C (C * R) op → cnt op (2 * (C * R)) = m → sN (fun c => popf (opn C (C * R) op c)) (C * R) = 2 * m := by
  intro m
  induction m with
  | zero =>
    intro op hv hc
    have hno : ∀ c d, opn C (C * R) op c d = false := by
      intro c d
      cases ho : opn C (C * R) op c d with
      | false => rfl
      | true =>
        obtain ⟨o, -, ho2⟩ := opn_t.mp ho
        have := cnt_0 hc _ (hv _ ho2).1
        rw [ho2] at this; cases this
    rw [sN_congr (g := fun _ => 0) (fun c _ => by simp [popf, hno, b01])]
    have : ∀ n, sN (fun _ => 0) n = 0 := by
      intro n
      induction n with
      | zero => rfl
      | succ n ih => simp only [sN, ih]
    rw [this]
  | succ m ih =>
    intro op hv hc
    obtain ⟨k, hk, ho⟩ := cnt_pos (op := op) (n := 2 * (C * R)) (by omega)
    have hkv := hv k ho
    have hcd := cnt_del (n := 2 * (C * R)) ho
    rw [if_pos hk] at hcd
    have hi := ih (setE op k false) (vO_set hv hkv) (by omega)
    have hA : pA k < C * R := pA_lt hk
    have hnb := pl_nb hkv
    have hp := nb_pl h1 h2 h3 h4 hA pdr_lt hnb
    have hne := nb_ne h1 hnb
    have hB := hp.2.2.1
    rw [sN_congr (g := fun c => (popf (opn C (C * R) (setE op k false) c) + (if c = pA k then 1 else 0)) + (if c = pB C k then 1 else 0)) (fun c hc' => ?_), sN_add, sN_add, hi, sN_one, sN_one, if_pos hA, if_pos hB]
    · omega
    · have hs : ∀ d', d' < 4 → opn C (C * R) (setE op k false) c d' = if (c = pA k ∧ d' = pdr k) ∨ (c = pB C k ∧ d' = opp (pdr k)) then false else opn C (C * R) op c d' := by
        intro d' hd'
        have := opn_set (op := op) (b := false) h1 h2 h3 h4 hA pdr_lt hnb hc' hd'
        rwa [pdr_num] at this
      by_cases e1 : c = pA k
      · subst e1
        rw [if_pos rfl, if_neg (Ne.symm hne)]
        rw [popf_set (o := opn C (C * R) op (pA k)) (o' := opn C (C * R) (setE op k false) (pA k)) pdr_lt (opn_t.mpr ⟨_, hnb, by rw [pdr_num]; exact ho⟩) (fun d' hd' => by
          rw [hs d' hd']
          by_cases q : d' = pdr k
          · rw [if_pos (Or.inl ⟨rfl, q⟩), if_pos q]
          · rw [if_neg q, if_neg]
            rintro (⟨-, z⟩ | ⟨z, -⟩)
            · exact q z
            · exact hne z.symm)]
      · by_cases e2 : c = pB C k
        · subst e2
          rw [if_pos rfl, if_neg hne]
          rw [popf_set (o := opn C (C * R) op (pB C k)) (o' := opn C (C * R) (setE op k false) (pB C k)) (d := opp (pdr k)) opp_lt (opn_t.mpr ⟨_, hp.2.2.2.1, by rw [hp.2.2.2.2, pdr_num]; exact ho⟩) (fun d' hd' => by
            rw [hs d' hd']
            by_cases q : d' = opp (pdr k)
            · rw [if_pos (Or.inr ⟨rfl, q⟩), if_pos q]
            · rw [if_neg q, if_neg]
              rintro (⟨z, -⟩ | ⟨-, z⟩)
              · exact hne z
              · exact q z)]
        · rw [if_neg e1, if_neg e2, popf_same (o := opn C (C * R) (setE op k false) c) (o' := opn C (C * R) op c) (fun d' hd' => by
            rw [hs d' hd', if_neg]
            rintro (⟨z, -⟩ | ⟨z, -⟩)
            · exact e1 z
            · exact e2 z)]
          rfl
theorem bits_cnt : ∀ a b c d : Bool, mJ6_bitCount_0f7a4 (jI ((b01 a + 2 * b01 b + 4 * b01 c + 8 * b01 d : Nat) : Int)) = some (jI ((b01 a + b01 b + b01 c + b01 d : Nat) : Int)) := by decide +kernel
theorem popf_le {o : Nat → Bool} : popf o ≤ 4 := by
  unfold popf b01
  split <;> split <;> split <;> split <;> omega
section CN
variable {v w : MZ} {s : nF} {M : Mz} {c d k F n : Nat}
theorem passageCount3 (hF : 36 < F) (h : R3 v M) (hd : dm M) (hv : vO (mC M) (mN M) (mO M)) : mX3_passageCount F v = some (jI (cnt (mO M) (2 * mN M) : Nat)) := by
  have hN := dm_le hd
  unfold mX3_passageCount
  have hb : ∀ i, i ≤ mN M → sN (fun c => popf (opn (mC M) (mN M) (mO M) c)) i ≤ 4 * 36 := by
    intro i hi
    have := sN_le (f := fun c => popf (opn (mC M) (mN M) (mO M) c)) (n := i) (b := 4) (fun c _ => popf_le)
    omega
  have := lpr_fn (L := mX3_passageCount_L4 v) (e := some (jI (cnt (mO M) (2 * mN M) : Nat))) (F := F) (fun i => (jI (sN (fun c => popf (opn (mC M) (mN M) (mO M) c)) i : Nat), jI (i : Nat))) (mN M) (by
    intro i hi self
    simp only [mX3_passageCount_L4, cells3 h, bnd_s]
    rw [nle_f hi (by omega), at_i (show i < 36 by omega) (by omega), bnd_s, h.2.2.2.1 i hi, mask_b, bits_cnt, bnd_s, jS]
    show self (jI (sN _ i : Nat) + jI (popf (opn (mC M) (mN M) (mO M) i) : Nat), _) = _
    rw [jnA]; rfl) (by
    intro self
    simp only [mX3_passageCount_L4, cells3 h, bnd_s]
    rw [nle_t (Nat.le_refl _) (by omega), gn2]
    have e : sN (fun c => popf (opn (mC M) (mN M) (mO M) c)) (mN M) = 2 * cnt (mO M) (2 * mN M) := pop_sum hd.1 hd.2.1 hd.2.2.1 hd.2.2.2 _ (mO M) hv rfl
    have := hb (mN M) (Nat.le_refl _)
    rw [e] at this
    rw [e, jl_2, ndiv (by omega) (by omega) (by omega)]
    congr 4
    omega) (by omega)
  rw [← this, jl_0]; rfl
theorem cnt_sN {op : Op} : ∀ n, sN (fun k => b01 (op k)) n = cnt op n := by
  intro n
  induction n with
  | zero => rfl
  | succ n ih => simp only [sN, cnt, ih]; rfl
theorem cnt_le2 {op : Op} : ∀ n, cnt op n ≤ n := by
  intro n
  induction n with
  | zero => exact Nat.le_refl _
  | succ n ih => simp only [cnt]; split <;> omega
theorem passages8 (hF : 72 < F) (h : R8 s M) (hd : dm M) : mX8_passages F s = some (jI (cnt (mO M) (2 * mN M) : Nat)) := by
  have hN := dm_le hd
  unfold mX8_passages
  have := lpr_fn (L := mX8_passages_L4 s) (e := some (jI (cnt (mO M) (2 * mN M) : Nat))) (F := F) (fun i => (jI (cnt (mO M) i : Nat), jI (i : Nat))) (2 * mN M) (by
    intro i hi self
    simp only [mX8_passages_L4, cells8 h, bnd_s, j2m]
    rw [nle_f hi (by omega), j42p, gdi (by omega) (by omega), jcl _ (by omega), h.2.2.2.2.2.2.2 i hi, jnA, jS]
    rfl) (by
    intro self
    simp only [mX8_passages_L4, cells8 h, bnd_s, j2m]
    rw [nle_t (Nat.le_refl _) (by omega)]) (by omega)
  rw [← this, jl_0]; rfl
def partI (M : Mz) : Int := (mN M : Int) - (cnt (mO M) (2 * mN M) : Int)
theorem parts3 (hF : 36 < F) (h : R3 v M) (hd : dm M) (hv : vO (mC M) (mN M) (mO M)) : mX3_parts F v = some (jI (partI M)) := by
  unfold mX3_parts
  rw [cells3 h, bnd_s, passageCount3 hF h hd hv, bnd_s, jI_sub]; rfl
theorem parts8 (hF : 72 < F) (h : R8 s M) (hd : dm M) : mX8_parts F s = some (jI (partI M)) := by
  unfold mX8_parts
  rw [cells8 h, bnd_s, passages8 hF h hd, bnd_s, jI_sub]; rfl
theorem part_b (hd : dm M) : -2147483648 ≤ partI M ∧ partI M < 2147483648 := by
  have hN := dm_le hd
  have := cnt_le2 (op := mO M) (2 * mN M)
  unfold partI
  omega
theorem isWhole3 (hF : 36 < F) (h : R3 v M) (hd : dm M) (hv : vO (mC M) (mN M) (mO M)) : mX3_isWhole F v = some (bI (decide (partI M = 1))) := by
  unfold mX3_isWhole
  rw [parts3 hF h hd hv, bnd_s]
  simp only [jn_e, j_1, j_0]
  by_cases e : partI M = 1
  · rw [jeq_t e, bI_p e]; rfl
  · rw [jeq_f (part_b hd) (by omega) e, bI_n e]; rfl
theorem isWhole8 (hF : 72 < F) (h : R8 s M) (hd : dm M) : mX8_isWhole F s = some (bI (decide (partI M = 1))) := by
  unfold mX8_isWhole
  rw [parts8 hF h hd, bnd_s]
  simp only [jn_e, j_1, j_0]
  by_cases e : partI M = 1
  · rw [jeq_t e, bI_p e]; rfl
  · rw [jeq_f (part_b hd) (by omega) e, bI_n e]; rfl
def toneS (M : Mz) : Nat := sN (mT M) (mN M)
theorem toneS_le (hd : dm M) (ht : ∀ c, c < mN M → mT M c ≤ 9) : toneS M ≤ 324 := by
  have hN := dm_le hd
  have := sN_le ht
  unfold toneS
  omega
theorem toneSum3 (hF : 36 < F) (h : R3 v M) (hd : dm M) : mX3_toneSum F v = some (jI (toneS M : Nat)) := by
  have hN := dm_le hd
  unfold mX3_toneSum
  have := lpr_fn (L := mX3_toneSum_L4 v) (e := some (jI (toneS M : Nat))) (F := F) (fun i => (jI (sN (mT M) i : Nat), jI (i : Nat))) (mN M) (by
    intro i hi self
    simp only [mX3_toneSum_L4, cells3 h, bnd_s]
    rw [nle_f hi (by omega), at_i (show i < 36 by omega) (by omega), bnd_s, h.2.2.1 i hi, jS, jnA]; rfl) (by
    intro self
    simp only [mX3_toneSum_L4, cells3 h, bnd_s]
    rw [nle_t (Nat.le_refl _) (by omega)]; rfl) (by omega)
  rw [← this, jl_0]; rfl
theorem tones8 (hF : 36 < F) (h : R8 s M) (hd : dm M) : mX8_tones F s = some (jI (toneS M : Nat)) := by
  have hN := dm_le hd
  unfold mX8_tones
  have := lpr_fn (L := mX8_tones_L4 s) (e := some (jI (toneS M : Nat))) (F := F) (fun i => (jI (sN (mT M) i : Nat), jI (i : Nat))) (mN M) (by
    intro i hi self
    simp only [mX8_tones_L4, cells8 h, bnd_s]
    rw [nle_f hi (by omega), j6p, gdi (by omega) (by omega), jcl _ (by omega), h.2.2.2.2.2.2.1 i hi, jS, jnA]; rfl) (by
    intro self
    simp only [mX8_tones_L4, cells8 h, bnd_s]
    rw [nle_t (Nat.le_refl _) (by omega)]; rfl) (by omega)
  rw [← this, jl_0]; rfl
def endN (M : Mz) : Nat := sN (fun c => if popf (opn (mC M) (mN M) (mO M) c) = 1 then 1 else 0) (mN M)
theorem deadEnds3 (hF : 36 < F) (h : R3 v M) (hd : dm M) : mX3_deadEnds F v = some (jI (endN M : Nat)) := by
  have hN := dm_le hd
  unfold mX3_deadEnds
  have := lpr_fn (L := mX3_deadEnds_L4 v) (e := some (jI (endN M : Nat))) (F := F) (fun i => (jI (sN (fun c => if popf (opn (mC M) (mN M) (mO M) c) = 1 then 1 else 0) i : Nat), jI (i : Nat))) (mN M) (by
    intro i hi self
    simp only [mX3_deadEnds_L4, cells3 h, bnd_s]
    rw [nle_f hi (by omega), at_i (show i < 36 by omega) (by omega), bnd_s, h.2.2.2.1 i hi, mask_b, bits_cnt, bnd_s, jS]
    simp only [jn_e]
    have hp := popf_le (o := opn (mC M) (mN M) (mO M) i)
    show (if jI (popf (opn (mC M) (mN M) (mO M) i) : Nat) = 1 then _ else _) = _
    by_cases e : popf (opn (mC M) (mN M) (mO M) i) = 1
    · rw [e, if_pos (by decide), jS]
      simp only [sN, e, if_true]
    · rw [if_neg (by rw [jl_1, neq (by omega) (by omega)]; exact e)]
      simp only [sN, if_neg e]; rfl) (by
    intro self
    simp only [mX3_deadEnds_L4, cells3 h, bnd_s]
    rw [nle_t (Nat.le_refl _) (by omega)]; rfl) (by omega)
  rw [← this, jl_0]; rfl
def pm (o : Nat → Bool) (i : Nat) : Nat := (if 0 < i then b01 (o 0) else 0) + 2 * (if 1 < i then b01 (o 1) else 0) + 4 * (if 2 < i then b01 (o 2) else 0) + 8 * (if 3 < i then b01 (o 3) else 0)
theorem bits_or : ∀ a b c d : Bool, ∀ i : Fin 4, jI (pm (fun j => if j = 0 then a else if j = 1 then b else if j = 2 then c else d) i.val : Nat) ||| (if (if i.val = 0 then a else if i.val = 1 then b else if i.val = 2 then c else d) = true then ((1 : Int32) <<< (jI (i.val : Nat) &&& 31)) else 0) = jI (pm (fun j => if j = 0 then a else if j = 1 then b else if j = 2 then c else d) (i.val + 1) : Nat) := by decide +kernel
theorem pm_or {o : Nat → Bool} (hdd : d < 4) : jI (pm o d : Nat) ||| (if o d = true then ((1 : Int32) <<< (jI (d : Nat) &&& 31)) else 0) = jI (pm o (d + 1) : Nat) := by
  have h := bits_or (o 0) (o 1) (o 2) (o 3) ⟨d, hdd⟩
  have e : (if d = 0 then o 0 else if d = 1 then o 1 else if d = 2 then o 2 else o 3) = o d := d4 (P := fun d => (if d = 0 then o 0 else if d = 1 then o 1 else if d = 2 then o 2 else o 3) = o d) hdd rfl rfl rfl rfl
  simp only [e] at h
  exact h
theorem directions8 (hF : 4 < F) (h : R8 s M) (hd : dm M) (hc : c < mN M) : mX8_directions F s (jI (c : Nat)) = some (jI (mask (mC M) (mN M) (mO M) c : Nat)) := by
  unfold mX8_directions
  have := lpr_fn (L := mX8_directions_L4 s (jI (c : Nat))) (e := some (jI (mask (mC M) (mN M) (mO M) c : Nat))) (F := F) (fun i => (jI (pm (opn (mC M) (mN M) (mO M) c) i : Nat), jI (i : Nat))) 4 (by
    intro i hi self
    simp only [mX8_directions_L4, jl_4]
    rw [nle_f hi (by omega), isOpen8 h hd hc hi, bnd_s]
    simp only [jn_e, jS]
    rw [← pm_or hi]
    cases ho : opn (mC M) (mN M) (mO M) c i
    · rw [if_pos (show bI false = 0 from rfl), if_neg Bool.noConfusion]
    · rw [if_neg bIt0, if_pos rfl]) (by
    intro self
    simp only [mX8_directions_L4, jl_4]
    rw [nle_t (Nat.le_refl _) (by omega), mask_b]; rfl) hF
  rw [← this, jl_0]; rfl
theorem bits_one : ∀ a b c d : Bool, (decide (jI ((b01 a + 2 * b01 b + 4 * b01 c + 8 * b01 d : Nat) : Int) = 1) || decide (jI ((b01 a + 2 * b01 b + 4 * b01 c + 8 * b01 d : Nat) : Int) = 2) || decide (jI ((b01 a + 2 * b01 b + 4 * b01 c + 8 * b01 d : Nat) : Int) = 4) || decide (jI ((b01 a + 2 * b01 b + 4 * b01 c + 8 * b01 d : Nat) : Int) = 8)) = decide (b01 a + b01 b + b01 c + b01 d = 1) := by decide +kernel
theorem ends8 (hF : 36 < F) (h : R8 s M) (hd : dm M) : mX8_ends F s = some (jI (endN M : Nat)) := by
  have hN := dm_le hd
  unfold mX8_ends
  have := lpr_fn (L := mX8_ends_L4 F s) (e := some (jI (endN M : Nat))) (F := F) (fun i => (jI (sN (fun c => if popf (opn (mC M) (mN M) (mO M) c) = 1 then 1 else 0) i : Nat), jI (i : Nat))) (mN M) (by
    intro i hi self
    simp only [mX8_ends_L4, cells8 h, bnd_s]
    rw [nle_f hi (by omega), directions8 (by omega) h hd hi, bnd_s, mask_b, jS]
    simp only [jn_e]
    have hb := bits_one (opn (mC M) (mN M) (mO M) i 0) (opn (mC M) (mN M) (mO M) i 1) (opn (mC M) (mN M) (mO M) i 2) (opn (mC M) (mN M) (mO M) i 3)
    have e : (b01 (opn (mC M) (mN M) (mO M) i 0) + b01 (opn (mC M) (mN M) (mO M) i 1) + b01 (opn (mC M) (mN M) (mO M) i 2) + b01 (opn (mC M) (mN M) (mO M) i 3)) = popf (opn (mC M) (mN M) (mO M) i) := rfl
    rw [e] at hb
    show _ = self (jI (sN _ i + (if popf (opn (mC M) (mN M) (mO M) i) = 1 then 1 else 0) : Nat), _)
    by_cases q : popf (opn (mC M) (mN M) (mO M) i) = 1
    · rw [decide_eq_true q] at hb
      simp only [Bool.or_eq_true, decide_eq_true_eq] at hb
      rw [if_pos q, ← jS (sN (fun c => if popf (opn (mC M) (mN M) (mO M) c) = 1 then 1 else 0) i)]
      split
      · rfl
      · split
        · rfl
        · split
          · rfl
          · split
            · rfl
            · exfalso
              rcases hb with ((hb | hb) | hb) | hb <;> contradiction
    · rw [decide_eq_false q] at hb
      simp only [Bool.or_eq_false_iff, decide_eq_false_iff_not] at hb
      rw [if_neg q, if_neg hb.1.1.1, if_neg hb.1.1.2, if_neg hb.1.2, if_neg hb.2, jl_0, jnA]) (by
    intro self
    simp only [mX8_ends_L4, cells8 h, bnd_s]
    rw [nle_t (Nat.le_refl _) (by omega)]; rfl) (by omega)
  rw [← this, jl_0]; rfl
end CN
end
section
/-! HISTORY: the states of both sides -/
def pushN (n : Nat) : Nat := if n = 4 then 4 else n + 1
def pushH (n : Nat) (H : Nat → Mz) (M : Mz) : Nat → Mz := if n = 4 then (fun i => if i < 3 then H (i + 1) else M) else (fun i => if i = n then M else H i)
def RP (p : nF) (n : Nat) (H : Nat → Mz) : Prop := ∀ i, i < n → R8 (fun j => p (114 * i + j)) (H i)
def RH (h : HS) (n : Nat) (H : Nat → Mz) : Prop := h.1 = jI (n : Nat) ∧ n ≤ 4 ∧ ∀ i, i < n → R3 (h.2.2 ((i + h.2.1) % 4)) (H i)
theorem pushN_le {n : Nat} (h : n ≤ 4) : pushN n ≤ 4 := by unfold pushN; split <;> omega
theorem pushH_all {P : Mz → Prop} {n : Nat} {H : Nat → Mz} {M : Mz} (hn : n ≤ 4) (h : ∀ i, i < n → P (H i)) (hM : P M) : ∀ i, i < pushN n → P (pushH n H M i) := by
  intro i hi
  unfold pushN at hi
  unfold pushH
  by_cases e : n = 4
  · rw [if_pos e] at hi ⊢
    by_cases q : i < 3
    · show P (if i < 3 then H (i + 1) else M)
      rw [if_pos q]; exact h _ (by omega)
    · show P (if i < 3 then H (i + 1) else M)
      rw [if_neg q]; exact hM
  · rw [if_neg e] at hi ⊢
    show P (if i = n then M else H i)
    by_cases q : i = n
    · rw [if_pos q]; exact hM
    · rw [if_neg q]; exact h _ (by omega)
section HI
variable {v w : MZ} {s b p : nF} {M : Mz} {F n : Nat} {H : Nat → Mz} {a : Int}
theorem j114a (k : Nat) : jI (k : Nat) + (114 : Int32) = jI ((k + 114 : Nat) : Int) := by rw [j_114, jI_add]; rfl
/-- b laid down as state n -/
def lay (n i : Nat) (b p : nF) : nF := fun j => if 114 * n ≤ j ∧ j < 114 * n + i then b (j - 114 * n) else p j
theorem lay_0 : lay n 0 b p = p := by funext j; unfold lay; rw [if_neg (by omega)]
theorem lay_S {i : Nat} : upd (lay n i b p) (114 * n + i) (b i) = lay n (i + 1) b p := by
  funext j
  unfold upd lay
  by_cases h : j = 114 * n + i
  · subst h; rw [if_pos rfl, if_pos (by omega)]; congr 1; omega
  · rw [if_neg h]
    by_cases h2 : 114 * n ≤ j ∧ j < 114 * n + i
    · rw [if_pos h2, if_pos (by omega)]
    · rw [if_neg h2, if_neg (by omega)]
theorem acted_lay {x : Int32} (hF : 114 < F) (hn : n < 4) : lpr (mX8_acted_L82 s b x (p, jI (n : Nat))) F ((0 : Int32), p) = some (x, s, lay n 114 b p, jI ((n + 1 : Nat) : Int)) := by
  have := lpr_fn (L := mX8_acted_L82 s b x (p, jI (n : Nat))) (e := some (x, s, lay n 114 b p, jI ((n + 1 : Nat) : Int))) (F := F) (fun i => (jI (i : Nat), lay n i b p)) 114 (by
    intro i hi self
    simp only [mX8_acted_L82, j114m, jnA]
    rw [jl_114, nle_f hi (by omega), gdi hi (by omega), gdi (by omega) (by omega), jcl _ (by omega), jcl _ (by omega), jS, lay_S]) (by
    intro self
    simp only [mX8_acted_L82, jl_114]
    rw [nle_t (Nat.le_refl _) (by omega), jS]) hF
  simp only [lay_0] at this
  rw [← this, jl_0]
/-- the oldest state dropped -/
def shf (i : Nat) (p : nF) : nF := fun j => if j < i then p (j + 114) else p j
theorem shf_S {i : Nat} : upd (shf i p) i (shf i p (i + 114)) = shf (i + 1) p := by
  funext j
  unfold upd shf
  by_cases h : j = i
  · subst h; rw [if_pos rfl, if_neg (by omega), if_pos (by omega)]
  · rw [if_neg h]
    by_cases h2 : j < i
    · rw [if_pos h2, if_pos (by omega)]
    · rw [if_neg h2, if_neg (by omega)]
theorem acted_shf {j6 : nF → Option (Int32 × nF × nF × Int32)} (hF : 342 < F) : lpr (mX8_acted_L42 j6) F ((0 : Int32), p) = j6 (shf 342 p) := by
  have := lpr_fn (L := mX8_acted_L42 j6) (e := j6 (shf 342 p)) (F := F) (fun i => (jI (i : Nat), shf i p)) 342 (by
    intro i hi self
    simp only [mX8_acted_L42, j114a]
    rw [jl_342, nle_f hi (by omega), gdi (by omega) (by omega), gdi (by omega) (by omega), jcl _ (by omega), jcl _ (by omega), jS, shf_S]) (by
    intro self
    simp only [mX8_acted_L42, jl_342]
    rw [nle_t (Nat.le_refl _) (by omega)]) hF
  have e : shf 0 p = p := by funext j; unfold shf; rw [if_neg (by omega)]
  simp only [e] at this
  rw [← this, jl_0]
theorem acted8 (hF : 342 < F) (hn : n ≤ 4) (hR : RP p n H) (hdH : ∀ i, i < n → dm (H i)) (hb : R8 b M) (hd : dm M) (ha : 0 ≤ a ∧ a < 2147483648) :
    ∃ p', mX8_acted F s b p (jI (n : Nat)) (jI a) = some (jI a, s, p', jI (pushN n : Nat)) ∧ RP p' (pushN n) (pushH n H M) := by
  unfold mX8_acted
  rw [j_0, jle_t (by omega) (by omega) (by omega)]
  simp only [jn_e]
  rw [jl_4, ← j_0]
  by_cases e : n = 4
  · subst e
    rw [neq_t rfl, acted_shf hF]
    simp only [mX8_acted_K70]
    rw [← jl_4, show (4 : Int32) - 1 = jI (3 : Nat) from by decide, acted_lay (by omega) (by omega)]
    refine ⟨_, rfl, fun i hi => ?_⟩
    unfold pushN at hi
    rw [if_pos rfl] at hi
    unfold pushH
    rw [if_pos rfl]
    show R8 _ (if i < 3 then H (i + 1) else M)
    by_cases q : i < 3
    · rw [if_pos q]
      refine R8_cong (hR (i + 1) (by omega)) (hdH _ (by omega)) (fun j hj => ?_)
      show lay 3 114 b (shf 342 p) (114 * i + j) = p (114 * (i + 1) + j)
      unfold lay shf
      rw [if_neg (by omega), if_pos (by omega)]
      exact congrArg p (by omega)
    · rw [if_neg q]
      refine R8_cong hb hd (fun j hj => ?_)
      show lay 3 114 b (shf 342 p) (114 * i + j) = b j
      unfold lay
      rw [if_pos (by omega)]
      exact congrArg b (by omega)
  · rw [neq_f e (by omega) (by omega)]
    show ∃ p', lpr (mX8_acted_L82 s b (jI a) (p, jI (n : Nat))) F ((0 : Int32), p) = _ ∧ _
    rw [acted_lay (by omega) (by omega)]
    unfold pushN pushH
    rw [if_neg e, if_neg e]
    refine ⟨_, rfl, fun i hi => ?_⟩
    show R8 _ (if i = n then M else H i)
    by_cases q : i = n
    · subst q
      rw [if_pos rfl]
      refine R8_cong hb hd (fun j hj => ?_)
      show lay i 114 b p (114 * i + j) = b j
      unfold lay
      rw [if_pos (by omega)]
      exact congrArg b (by omega)
    · rw [if_neg q]
      refine R8_cong (hR i (by omega)) (hdH _ (by omega)) (fun j hj => ?_)
      show lay n 114 b p (114 * i + j) = p (114 * i + j)
      unfold lay
      rw [if_neg (by omega)]
theorem undo8_0 : mX8_undo F s p (jI (0 : Nat)) = some ((-2 : Int32), s, jI (0 : Nat)) := by
  unfold mX8_undo
  rw [if_pos (by decide)]
theorem undo8_S {k : Nat} (hF : 114 < F) (hk : k < 4) (hR : RP p (k + 1) H) (hdH : dm (H k)) : ∃ s', mX8_undo F s p (jI ((k + 1 : Nat) : Int)) = some (jI (k : Nat), s', jI (k : Nat)) ∧ R8 s' (H k) := by
  unfold mX8_undo
  rw [if_neg (by rw [ne0 (by omega)]; omega)]
  have e1 : jI ((k + 1 : Nat) : Int) - (1 : Int32) = jI (k : Nat) := by rw [j_1, jI_sub]; congr 1; omega
  have := lpr_fn (L := mX8_undo_L22 p (jI ((k + 1 : Nat) : Int))) (e := some (jI (k : Nat), mix 114 (fun j => p (114 * k + j)) s, jI (k : Nat))) (F := F) (fun i => (jI (i : Nat), mix i (fun j => p (114 * k + j)) s)) 114 (by
    intro i hi self
    simp only [mX8_undo_L22, e1, j114m, jnA]
    rw [jl_114, nle_f hi (by omega), gdi (by omega) (by omega), gdi hi (by omega), jcl _ (by omega), jcl _ (by omega), jS, ← mix_S (f := fun j => p (114 * k + j))]) (by
    intro self
    simp only [mX8_undo_L22, e1, jl_114]
    rw [nle_t (Nat.le_refl _) (by omega)]) hF
  simp only [mix_0] at this
  refine ⟨mix 114 (fun j => p (114 * k + j)) s, ?_, R8_mix (b := s) (hR k (by omega)) hdH⟩
  rw [← this, jl_0]
theorem keep8 {m : Int32} (hF : 114 < F) (h : R8 s M) (hd : dm M) : mX8_keep F s b m = some (jI (cnt (mO M) (2 * mN M) : Nat), mix 114 s b, (1 : Int32)) := by
  unfold mX8_keep
  simp only [jn_e]
  have := lpr_fn (L := mX8_keep_L2 s (mX8_keep_K26 F s)) (e := some (jI (cnt (mO M) (2 * mN M) : Nat), mix 114 s b, (1 : Int32))) (F := F) (fun i => (jI (i : Nat), mix i s b)) 114 (by
    intro i hi self
    simp only [mX8_keep_L2, jl_114]
    rw [nle_f hi (by omega), gdi hi (by omega), gdi hi (by omega), jcl _ (by omega), jS, mix_S]) (by
    intro self
    simp only [mX8_keep_L2, jl_114, mX8_keep_K26]
    rw [nle_t (Nat.le_refl _) (by omega), gz1, passages8 (by omega) h hd, bnd_s]) hF
  simp only [mix_0] at this
  rw [← this, jl_0]
theorem push3 {h : HS} (hF : 36 < F) (hR : RH h n H) (hv : R3 v M) (hd : dm M) : ∃ h', mX2_push F h v = some h' ∧ RH h' (pushN n) (pushH n H M) := by
  obtain ⟨h1, h2, h3⟩ := hR
  have hk : n = 0 ∨ n = 1 ∨ n = 2 ∨ n = 3 ∨ n = 4 := by omega
  have lit : ∀ a b : Nat, a < 5 → b < 5 → (jI (a : Nat) = jI (b : Nat)) = (a = b) := fun a b ha hb => neq (by omega) (by omega)
  unfold mX2_push
  rw [h1]
  have step : ∀ k : Nat, k < 4 → n = k → ∀ r, R3 r M → RH (jI ((k + 1 : Nat) : Int), h.2.1, fun j => if j = (k + h.2.1) % 4 then r else h.2.2 j) (pushN n) (pushH n H M) := by
    intro k hk4 hnk r hr
    subst hnk
    unfold pushN pushH
    rw [if_neg (by omega), if_neg (by omega)]
    refine ⟨rfl, by omega, fun i hi => ?_⟩
    show R3 (if (i + h.2.1) % 4 = (n + h.2.1) % 4 then r else h.2.2 ((i + h.2.1) % 4)) (if i = n then M else H i)
    by_cases q : i = n
    · subst q; rw [if_pos rfl, if_pos rfl]; exact hr
    · rw [if_neg (by omega), if_neg q]; exact h3 i (by omega)
  rcases hk with rfl | rfl | rfl | rfl | rfl
  · obtain ⟨r, r1, r2⟩ := copyFrom3_R (v := h.2.2 ((0 + h.2.1) % 4)) hF hv hd
    rw [if_pos (by decide), r1, bnd_s]
    exact ⟨_, rfl, step 0 (by omega) rfl r r2⟩
  · obtain ⟨r, r1, r2⟩ := copyFrom3_R (v := h.2.2 ((1 + h.2.1) % 4)) hF hv hd
    rw [if_neg (by decide), if_pos (by decide), r1, bnd_s]
    exact ⟨_, rfl, step 1 (by omega) rfl r r2⟩
  · obtain ⟨r, r1, r2⟩ := copyFrom3_R (v := h.2.2 ((2 + h.2.1) % 4)) hF hv hd
    rw [if_neg (by decide), if_neg (by decide), if_pos (by decide), r1, bnd_s]
    exact ⟨_, rfl, step 2 (by omega) rfl r r2⟩
  · obtain ⟨r, r1, r2⟩ := copyFrom3_R (v := h.2.2 ((3 + h.2.1) % 4)) hF hv hd
    rw [if_neg (by decide), if_neg (by decide), if_neg (by decide), if_pos (by decide), r1, bnd_s]
    exact ⟨_, rfl, step 3 (by omega) rfl r r2⟩
  · obtain ⟨r, r1, r2⟩ := copyFrom3_R (v := h.2.2 ((3 + (h.2.1 + 1)) % 4)) hF hv hd
    rw [if_neg (by decide), if_neg (by decide), if_neg (by decide), if_neg (by decide), if_pos (by decide), r1, bnd_s]
    refine ⟨_, rfl, rfl, by decide, fun i hi => ?_⟩
    unfold pushN at hi
    rw [if_pos rfl] at hi
    unfold pushH
    rw [if_pos rfl]
    show R3 (if (i + (h.2.1 + 1)) % 4 = (3 + (h.2.1 + 1)) % 4 then r else h.2.2 ((i + (h.2.1 + 1)) % 4)) (if i < 3 then H (i + 1) else M)
    by_cases q : i < 3
    · rw [if_neg (by omega), if_pos q, show i + (h.2.1 + 1) = (i + 1) + h.2.1 by omega]; exact h3 (i + 1) (by omega)
    · rw [if_pos (by omega), if_neg q]; exact r2
theorem pop3_0 {h : HS} (hR : RH h 0 H) : mX2_pop F h v = some (0, 0, v) := by
  unfold mX2_pop
  rw [hR.1, if_pos (by decide)]
theorem pop3_S {h : HS} {k : Nat} (hF : 36 < F) (hR : RH h (k + 1) H) (hdH : dm (H k)) : ∃ r, mX2_pop F h v = some (1, jI (k : Nat), r) ∧ R3 r (H k) := by
  obtain ⟨h1, h2, h3⟩ := hR
  have hk : k = 0 ∨ k = 1 ∨ k = 2 ∨ k = 3 := by omega
  obtain ⟨r, r1, r2⟩ := copyFrom3_R (v := v) hF (h3 k (by omega)) hdH
  unfold mX2_pop
  rw [h1]
  rcases hk with rfl | rfl | rfl | rfl
  · rw [if_neg (by decide), if_pos (by decide), r1, bnd_s]; exact ⟨_, rfl, r2⟩
  · rw [if_neg (by decide), if_neg (by decide), if_pos (by decide), r1, bnd_s]; exact ⟨_, rfl, r2⟩
  · rw [if_neg (by decide), if_neg (by decide), if_neg (by decide), if_pos (by decide), r1, bnd_s]; exact ⟨_, rfl, r2⟩
  · rw [if_neg (by decide), if_neg (by decide), if_neg (by decide), if_neg (by decide), if_pos (by decide), r1, bnd_s]; exact ⟨_, rfl, r2⟩
end HI
end
section
/-! SEARCH: the breadth-first search of both sides -/
theorem php {N n : Nat} {g : Nat → Nat} (h1 : ∀ i, i < n → g i < N) (h2 : ∀ i j, i < n → j < n → g i = g j → i = j) : n ≤ N := by
  have hn : ((List.range n).map g).Nodup := by
    rw [List.nodup_iff_pairwise_ne, List.pairwise_map]
    refine List.Pairwise.imp_of_mem ?_ (List.nodup_iff_pairwise_ne.mp (List.nodup_range (n := n)))
    intro a b ha hb hne e
    exact hne (h2 a b (List.mem_range.mp ha) (List.mem_range.mp hb) e)
  have hs : (List.range n).map g ⊆ List.range N := by
    intro x hx
    obtain ⟨i, hi, rfl⟩ := List.mem_map.mp hx
    exact List.mem_range.mpr (h1 i (List.mem_range.mp hi))
  have := List.Nodup.length_le_of_subset hn hs
  simpa using this
def Vs (n : Nat) (ord : Nat → Nat) (c : Nat) : Prop := ∃ k, k < n ∧ ord k = c
def SS (C N : Nat) (op : Op) (r i n : Nat) (ord prev len : Nat → Nat) : Prop :=
  0 < n ∧ i ≤ n ∧ ord 0 = r ∧ len r = 0 ∧ (∀ k, k < n → ord k < N) ∧ (∀ j k, j < n → k < n → ord j = ord k → j = k) ∧
  (∀ k, 0 < k → k < n → ∃ j, j < k ∧ prev (ord k) = ord j ∧ adj C op (ord j) (ord k) ∧ len (ord k) = len (ord j) + 1) ∧
  (∀ k c, k < i → adj C op (ord k) c → Vs n ord c)
def set1 {α : Type} (f : Nat → α) (k : Nat) (x : α) : Nat → α := fun j => if j = k then x else f j
theorem set1_s {α : Type} {f : Nat → α} {k : Nat} {x : α} : set1 f k x k = x := if_pos rfl
theorem set1_n {α : Type} {f : Nat → α} {k j : Nat} {x : α} (h : j ≠ k) : set1 f k x j = f j := if_neg h
section SE
variable {C N r i n c : Nat} {op : Op} {ord prev len : Nat → Nat}
theorem ss_n (h : SS C N op r i n ord prev len) : n ≤ N := php h.2.2.2.2.1 h.2.2.2.2.2.1
theorem Vs_add (h : Vs n ord c) {x : Nat} : Vs (n + 1) (set1 ord n x) c := by
  obtain ⟨k, hk, rfl⟩ := h
  exact ⟨k, by omega, set1_n (by omega)⟩
theorem ss_add (h : SS C N op r i n ord prev len) (hi : i < n) (hc : c < N) (ha : adj C op (ord i) c) (hn : ¬ Vs n ord c) : SS C N op r i (n + 1) (set1 ord n c) (set1 prev c (ord i)) (set1 len c (len (ord i) + 1)) := by
  obtain ⟨a1, a2, a3, a4, a5, a6, a7, a8⟩ := h
  have hne : ∀ k, k < n → ord k ≠ c := fun k hk e => hn ⟨k, hk, e⟩
  refine ⟨by omega, by omega, by rw [set1_n (by omega)]; exact a3, ?_, ?_, ?_, ?_, ?_⟩
  · rw [set1_n (by rw [← a3]; exact hne 0 a1)]; exact a4
  · intro k hk
    by_cases e : k = n
    · subst e; rw [set1_s]; exact hc
    · rw [set1_n e]; exact a5 k (by omega)
  · intro j k hj hk he
    by_cases e1 : j = n
    · by_cases e2 : k = n
      · omega
      · subst e1
        rw [set1_s, set1_n e2] at he
        exact absurd he.symm (hne k (by omega))
    · by_cases e2 : k = n
      · subst e2
        rw [set1_s, set1_n e1] at he
        exact absurd he (hne j (by omega))
      · rw [set1_n e1, set1_n e2] at he
        exact a6 j k (by omega) (by omega) he
  · intro k hk0 hk
    by_cases e : k = n
    · subst e
      refine ⟨i, hi, ?_, ?_, ?_⟩
      · rw [set1_s, set1_s, set1_n (by omega)]
      · rw [set1_s, set1_n (by omega)]; exact ha
      · rw [set1_s, set1_s, set1_n (show i ≠ k by omega), set1_n (hne i hi)]
    · obtain ⟨j, b1, b2, b3, b4⟩ := a7 k hk0 (by omega)
      refine ⟨j, b1, ?_, ?_, ?_⟩
      · rw [set1_n e, set1_n (hne k (by omega)), set1_n (by omega)]; exact b2
      · rw [set1_n e, set1_n (by omega)]; exact b3
      · rw [set1_n e, set1_n (hne k (by omega)), set1_n (show j ≠ n by omega), set1_n (hne j (by omega))]; exact b4
  · intro k c' hk hac
    rw [set1_n (by omega)] at hac
    exact Vs_add (a8 k c' hk hac)
theorem ss_next (h : SS C N op r i n ord prev len) (hi : i < n) (ha : ∀ c, adj C op (ord i) c → Vs n ord c) : SS C N op r (i + 1) n ord prev len := by
  obtain ⟨a1, a2, a3, a4, a5, a6, a7, a8⟩ := h
  refine ⟨a1, by omega, a3, a4, a5, a6, a7, fun k c hk hac => ?_⟩
  by_cases e : k = i
  · subst e; exact ha c hac
  · exact a8 k c (by omega) hac
theorem ss_rt (h : SS C N op r n n ord prev len) : RT C op r (Vs n ord) len prev := by
  obtain ⟨a1, a2, a3, a4, a5, a6, a7, a8⟩ := h
  refine ⟨⟨0, a1, a3⟩, a4, ?_, ?_⟩
  · rintro c ⟨k, hk, rfl⟩ hne
    have : 0 < k := by
      rcases Nat.eq_zero_or_pos k with rfl | q
      · exact absurd a3 hne
      · exact q
    obtain ⟨j, b1, b2, b3, b4⟩ := a7 k this hk
    rw [b2]
    exact ⟨⟨j, by omega, rfl⟩, b3, b4⟩
  · rintro c c' ⟨k, hk, rfl⟩ ha
    exact a8 k c' hk ha
theorem ss_len (h : SS C N op r i n ord prev len) : ∀ k, k < n → len (ord k) ≤ k := by
  obtain ⟨a1, a2, a3, a4, a5, a6, a7, a8⟩ := h
  intro k
  induction k using Nat.strongRecOn with
  | ind k ih =>
    intro hk
    rcases Nat.eq_zero_or_pos k with rfl | q
    · rw [a3, a4]; omega
    · obtain ⟨j, b1, b2, b3, b4⟩ := a7 k q hk
      have := ih j b1 (by omega)
      omega
end SE
/-- the way from c to r, without a repetition; empty if there is none -/
noncomputable def wy (C : Nat) (op : Op) (r c : Nat) : List Nat :=
  @dite (List Nat) (∃ l : List Nat, Wk C op l ∧ l.Nodup ∧ l.head? = some c ∧ l.getLast? = some r) (Classical.propDecidable _) (fun h => Classical.choose h) (fun _ => [])
section WYS
variable {C r c : Nat} {op : Op} {V : Nat → Prop} {len prev : Nat → Nat}
theorem wy_spec (h : conn C op r c) : Wk C op (wy C op r c) ∧ (wy C op r c).Nodup ∧ (wy C op r c).head? = some c ∧ (wy C op r c).getLast? = some r := by
  have hw := conn_way (conn_sy h)
  unfold wy
  rw [dif_pos hw]
  exact Classical.choose_spec hw
theorem wy_no (h : ¬ conn C op r c) : wy C op r c = [] := by
  unfold wy
  rw [dif_neg]
  rintro ⟨l, h1, -, h3, h4⟩
  exact h (conn_sy (wk_conn h1 h3 (List.mem_of_getLast? h4)))
theorem wy_rt (hC : 2 ≤ C) (hF : forest C op) (h : RT C op r V len prev) (hc : V c) : wy C op r c = pth prev (len c) c := by
  obtain ⟨h1, h2, h3, h4⟩ := wy_spec ((rt_conn h).mp hc)
  exact way_uniq hC hF h _ c h1 h2 h3 hc h4
noncomputable def dst (C : Nat) (op : Op) (r c : Nat) : Int := ((wy C op r c).length : Int) - 1
theorem dst_rt (hC : 2 ≤ C) (hF : forest C op) (h : RT C op r V len prev) (hc : V c) : dst C op r c = (len c : Int) := by
  unfold dst
  rw [wy_rt hC hF h hc, pth_len]; omega
theorem dst_no (h : ¬ conn C op r c) : dst C op r c = -1 := by
  unfold dst
  rw [wy_no h]; rfl
theorem dst_c : 0 ≤ dst C op r c ↔ conn C op r c := by
  constructor
  · intro h
    apply Classical.byContradiction
    intro q
    rw [dst_no q] at h
    omega
  · intro h
    have := (wy_spec h).2.2.1
    unfold dst
    cases hw : wy C op r c with
    | nil => rw [hw] at this; cases this
    | cons a l => simp
theorem dst_ge : -1 ≤ dst C op r c := by unfold dst; omega
end WYS
/-- the gain of a cell that is drawn -/
def gain (M : Mz) (c : Nat) : Int := 9 - 2 * (mT M c : Int)
def WF2 (M : Mz) : Prop := dm M ∧ vO (mC M) (mN M) (mO M) ∧ forest (mC M) (mO M)
theorem WF.w2 {M : Mz} (h : WF M) : WF2 M := ⟨h.1, h.2.2.1, h.2.2.2.1⟩
section BF
variable {v : MZ} {w : WY} {s : nF} {M : Mz} {c d F n i r : Nat} {ord prev len : Nat → Nat} {gn : Nat → Int}
def WRe (w : WY) (M : Mz) (r n : Nat) (ord prev len : Nat → Nat) (gn : Nat → Int) : Prop :=
  w.1 = jI (n : Nat) ∧ (∀ k, k < n → w.2.1 k = jI (ord k : Nat)) ∧ (∀ k, 0 < k → k < n → w.2.2.1 (ord k) = jI (prev (ord k) : Nat)) ∧ (∀ k, k < n → w.2.2.2.1 (ord k) = jI (len (ord k) : Nat)) ∧
  (∀ c, c < mN M → ¬ Vs n ord c → w.2.2.2.1 c = jI (-1)) ∧ (∀ k, k < n → w.2.2.2.2 (ord k) = jI (gn (ord k))) ∧ gn r = gain M r ∧ ∀ k, 0 < k → k < n → gn (ord k) = gn (prev (ord k)) + gain M (ord k)
theorem lengthTo3 (hc : c < 36) : mX6_lengthTo w (jI (c : Nat)) = some (w.2.2.2.1 c) := by
  simp only [mX6_lengthTo, jn_e, jN]
  rw [if_neg (by rw [nn0 (by omega)]; exact id), nle_f hc (by omega), gdi hc (by omega), jcl _ (by omega)]
theorem lengthTo3_m : mX6_lengthTo w (jI (-1)) = some (jI (-1)) := by
  simp only [mX6_lengthTo, jn_e]
  rw [if_pos (by decide), j_m1]
theorem reach3_m : mX6_reach w (jI (-1)) = some (bI false) := by
  simp only [mX6_reach, lengthTo3_m, bnd_s, jn_e]
  rw [if_pos (by decide)]; rfl
theorem reach3 (hc : c < 36) {x : Int} (hx : -2147483648 ≤ x ∧ x < 2147483648) (h : w.2.2.2.1 c = jI x) : mX6_reach w (jI (c : Nat)) = some (bI (decide (x ≠ -1))) := by
  simp only [mX6_reach, lengthTo3 hc, bnd_s, jn_e, h, j_m1]
  by_cases e : x = -1
  · rw [jeq_t e, bI_n (by omega)]; rfl
  · rw [jeq_f hx (by omega) e, bI_p e]; rfl
theorem gain_e (hc : c < mN M) (h : R3 v M) : (9 : Int32) - ((2 : Int32) * v.2.2.1 c) = jI (gain M c) := by
  rw [h.2.2.1 c hc, j_9, j_2, jI_mul, jI_sub]; rfl
theorem reachCell3_0 (h : R3 v M) (hd : dm M) (hc : c < mN M) (hn : w.1 = jI (n : Nat)) (hn2 : n < 36) : mX6_reachCell w v (jI (c : Nat)) (-1 : Int32) =
    some (jI ((n + 1 : Nat) : Int), upd w.2.1 n (jI (c : Nat)), upd w.2.2.1 c (-1 : Int32), upd w.2.2.2.1 c (0 : Int32), upd w.2.2.2.2 c (jI (gain M c))) := by
  have hN := dm_le hd
  unfold mX6_reachCell
  rw [at_i (show c < 36 by omega) (by omega), bnd_s, hn, put_i hn2 (by omega), bnd_s, put_i (show c < 36 by omega) (by omega), bnd_s]
  simp only [jn_e, if_true]
  rw [put_i (show c < 36 by omega) (by omega), bnd_s, gain_e hc h, put_i (show c < 36 by omega) (by omega), bnd_s, jS]
theorem reachCell3 (h : R3 v M) (hd : dm M) (hc : c < mN M) {a : Nat} (ha : a < mN M) (hn : w.1 = jI (n : Nat)) (hn2 : n < 36) : mX6_reachCell w v (jI (c : Nat)) (jI (a : Nat)) =
    some (jI ((n + 1 : Nat) : Int), upd w.2.1 n (jI (c : Nat)), upd w.2.2.1 c (jI (a : Nat)), upd w.2.2.2.1 c (w.2.2.2.1 a + (1 : Int32)), upd w.2.2.2.2 c (w.2.2.2.2 a + jI (gain M c))) := by
  have hN := dm_le hd
  unfold mX6_reachCell
  rw [at_i (show c < 36 by omega) (by omega), bnd_s, hn, put_i hn2 (by omega), bnd_s, put_i (show c < 36 by omega) (by omega), bnd_s]
  have hm : ¬ (jI (a : Nat) = (-1 : Int32)) := by rw [nem1 (by omega)]; exact id
  simp only [jn_e, if_neg hm]
  rw [lengthTo3 (show a < 36 by omega), bnd_s, put_i (show c < 36 by omega) (by omega), bnd_s, at_i (show a < 36 by omega) (by omega), bnd_s, gain_e hc h, put_i (show c < 36 by omega) (by omega), bnd_s, jS]
theorem wre_add {a : Nat} (hS : SS (mC M) (mN M) (mO M) r i n ord prev len) (hw : WRe w M r n ord prev len gn) (hi : i < n) (hc : c < mN M) (hn : ¬ Vs n ord c) (ha : a = ord i) :
    WRe (jI ((n + 1 : Nat) : Int), upd w.2.1 n (jI (c : Nat)), upd w.2.2.1 c (jI (a : Nat)), upd w.2.2.2.1 c (w.2.2.2.1 a + (1 : Int32)), upd w.2.2.2.2 c (w.2.2.2.2 a + jI (gain M c))) M r (n + 1) (set1 ord n c) (set1 prev c (ord i)) (set1 len c (len (ord i) + 1)) (set1 gn c (gn (ord i) + gain M c)) := by
  subst ha
  obtain ⟨b1, b2, b3, b4, b5, b6, b7, b8⟩ := hw
  have hne : ∀ k, k < n → ord k ≠ c := fun k hk e => hn ⟨k, hk, e⟩
  refine ⟨rfl, ?_, ?_, ?_, ?_, ?_, ?_, ?_⟩
  · intro k hk
    show upd w.2.1 n (jI (c : Nat)) k = _
    by_cases e : k = n
    · subst e; rw [upd_s, set1_s]
    · rw [upd_n e, set1_n e]; exact b2 k (by omega)
  · intro k hk0 hk
    show upd w.2.2.1 c (jI (ord i : Nat)) _ = _
    by_cases e : k = n
    · subst e; rw [set1_s, upd_s, set1_s]
    · rw [set1_n e, upd_n (hne k (by omega)), set1_n (hne k (by omega))]; exact b3 k hk0 (by omega)
  · intro k hk
    show upd w.2.2.2.1 c _ _ = _
    by_cases e : k = n
    · subst e; rw [set1_s, upd_s, set1_s, b4 i hi, jS]
    · rw [set1_n e, upd_n (hne k (by omega)), set1_n (hne k (by omega))]; exact b4 k (by omega)
  · intro c' hc' hn'
    show upd w.2.2.2.1 c _ c' = _
    have e : c' ≠ c := by
      rintro rfl
      exact hn' ⟨n, by omega, set1_s⟩
    rw [upd_n e]
    exact b5 c' hc' (fun q => hn' (Vs_add q))
  · intro k hk
    show upd w.2.2.2.2 c _ _ = _
    by_cases e : k = n
    · subst e; rw [set1_s, upd_s, set1_s, b6 i hi, jI_add]
    · rw [set1_n e, upd_n (hne k (by omega)), set1_n (hne k (by omega))]; exact b6 k (by omega)
  · rw [set1_n (by rw [← hS.2.2.1]; exact hne 0 hS.1)]; exact b7
  · intro k hk0 hk
    by_cases e : k = n
    · subst e; rw [set1_s, set1_s, set1_s, set1_n (hne i hi)]
    · rw [set1_n e, set1_n (hne k (by omega)), set1_n (hne k (by omega))]
      obtain ⟨j, q1, q2, -⟩ := hS.2.2.2.2.2.2.1 k hk0 (by omega)
      rw [q2, set1_n (hne j (by omega)), ← q2]
      exact b8 k hk0 (by omega)
/-- the inner loop: all cells beside cell i of the order are reached -/
theorem findFrom_in (hF : 4 < F) (h : R3 v M) (hw : WF2 M) {x : WY} (hS : SS (mC M) (mN M) (mO M) r i n ord prev len) (hi : i < n) (hx : WRe x M r n ord prev len gn) :
    ∃ y, (∃ n' ord' prev' len' gn', SS (mC M) (mN M) (mO M) r (i + 1) n' ord' prev' len' ∧ WRe y M r n' ord' prev' len' gn') ∧ ∀ j9, lpr (mX6_findFrom_L49 v (jI (ord i : Nat)) j9) F ((0 : Int32), x) = j9 y := by
  obtain ⟨hd, hv, hfo⟩ := hw
  have hN := dm_le hd
  have hc0 : ord i < mN M := hS.2.2.2.2.1 i hi
  refine lpr_j (L := fun j9 => mX6_findFrom_L49 v (jI (ord i : Nat)) j9) (fun d y => y.1 = jI (d : Nat) ∧ ∃ n' ord' prev' len' gn', SS (mC M) (mN M) (mO M) r i n' ord' prev' len' ∧ WRe y.2 M r n' ord' prev' len' gn' ∧ i < n' ∧ ord' i = ord i ∧ ∀ d', d' < d → ∀ o, nb (mC M) (mN M) (ord i) d' = some o → mO M (num (mC M) (ord i) d') = true → Vs n' ord' o) 4 ?_ ⟨jl_0, n, ord, prev, len, gn, hS, hx, hi, rfl, fun d' hd' => by omega⟩ hF
  intro d y hd4 ⟨hy1, n', ord', prev', len', gn', hS', hx', hi', ho', hn'⟩
  have hnN := ss_n hS'
  by_cases e : d = 4
  · left
    subst e
    refine ⟨y.2, ⟨n', ord', prev', len', gn', ss_next hS' hi' (fun c hac => ?_), hx'⟩, fun j self => ?_⟩
    · rw [ho'] at hac
      obtain ⟨d', q1, q2, q3⟩ := (adj_dir hd.1 hd.2.1 hd.2.2.1 hd.2.2.2 hv hc0).mp hac
      exact hn' d' q1 c q2 q3
    · simp only [mX6_findFrom_L49, hy1, jl_4]
      rw [nle_t (Nat.le_refl _) (by omega)]
  · right
    have hdlt : d < 4 := by omega
    refine ⟨hdlt, ?_⟩
    have hstep : ∀ j self, mX6_findFrom_L49 v (jI (ord i : Nat)) j self y = (if opn (mC M) (mN M) (mO M) (ord i) d = true then ((mX6_reach y.2 (oJ (nb (mC M) (mN M) (ord i) d))).bind fun r16 => if r16 = 0 then ((mX6_reachCell y.2 v (oJ (nb (mC M) (mN M) (ord i) d)) (jI (ord i : Nat))).bind fun r17 => self (jI ((d + 1 : Nat) : Int), r17)) else self (jI ((d + 1 : Nat) : Int), y.2)) else self (jI ((d + 1 : Nat) : Int), y.2)) := by
      intro j self
      simp only [mX6_findFrom_L49, hy1, jl_4]
      rw [nle_f hdlt (by omega), beside3 h hd hc0 hdlt, bnd_s, hasP3 h hd hc0 hdlt, bnd_s]
      simp only [jn_e, ifb, jS]
    cases hop : opn (mC M) (mN M) (mO M) (ord i) d with
    | false =>
      refine ⟨(jI ((d + 1 : Nat) : Int), y.2), ⟨rfl, n', ord', prev', len', gn', hS', hx', hi', ho', fun d' hd' o hno hoo => ?_⟩, fun j self => by rw [hstep, hop, if_neg Bool.noConfusion]⟩
      by_cases q : d' = d
      · subst q
        have : opn (mC M) (mN M) (mO M) (ord i) d' = true := opn_t.mpr ⟨o, hno, hoo⟩
        rw [hop] at this; cases this
      · exact hn' d' (by omega) o hno hoo
    | true =>
      obtain ⟨o, hno, hoo⟩ := opn_t.mp hop
      have hp := nb_pl hd.1 hd.2.1 hd.2.2.1 hd.2.2.2 hc0 hdlt hno
      have hoN : o < mN M := hp.2.2.1
      have hadj : adj (mC M) (mO M) (ord' i) o := by rw [ho']; exact (adj_dir hd.1 hd.2.1 hd.2.2.1 hd.2.2.2 hv hc0).mpr ⟨d, hdlt, hno, hoo⟩
      by_cases hvs : Vs n' ord' o
      · obtain ⟨k, hk, hko⟩ := hvs
        have hl := hx'.2.2.2.1 k hk
        rw [hko] at hl
        refine ⟨(jI ((d + 1 : Nat) : Int), y.2), ⟨rfl, n', ord', prev', len', gn', hS', hx', hi', ho', fun d' hd' o' hno' hoo' => ?_⟩, fun j self => ?_⟩
        · by_cases q : d' = d
          · subst q
            rw [hno] at hno'; cases hno'
            exact ⟨k, hk, hko⟩
          · exact hn' d' (by omega) o' hno' hoo'
        · have hlk := ss_len hS' k hk
          rw [hko] at hlk
          rw [hstep, hop, if_pos rfl, hno, oJ_some, reach3 (show o < 36 by omega) (x := (len' o : Int)) (by omega) hl, bnd_s, ifb, if_pos (decide_eq_true (by omega))]
      · have hl := hx'.2.2.2.2.1 o hoN hvs
        have hS2 := ss_add hS' hi' hoN hadj hvs
        have hn2 := ss_n hS2
        refine ⟨(jI ((d + 1 : Nat) : Int), _), ⟨rfl, n' + 1, set1 ord' n' o, set1 prev' o (ord' i), set1 len' o (len' (ord' i) + 1), set1 gn' o (gn' (ord' i) + gain M o), hS2, wre_add (a := ord i) hS' hx' hi' hoN hvs ho'.symm, by omega, by rw [set1_n (by omega)]; exact ho', fun d' hd' o' hno' hoo' => ?_⟩, fun j self => ?_⟩
        · by_cases q : d' = d
          · subst q
            rw [hno] at hno'; cases hno'
            exact ⟨n', by omega, set1_s⟩
          · exact Vs_add (hn' d' (by omega) o' hno' hoo')
        · rw [hstep, hop, if_pos rfl, hno, oJ_some, reach3 (show o < 36 by omega) (x := -1) (by omega) hl, bnd_s, ifb, if_neg (by simp), reachCell3 h hd hoN hc0 hx'.1 (by omega), bnd_s]
/-- what a search leaves -/
def WQ (M : Mz) (r : Nat) (w : WY) : Prop := ∃ n ord prev len, SS (mC M) (mN M) (mO M) r n n ord prev len ∧ w.1 = jI (n : Nat) ∧ (∀ k, k < n → w.2.1 k = jI (ord k : Nat)) ∧ (∀ k, 0 < k → k < n → w.2.2.1 (ord k) = jI (prev (ord k) : Nat)) ∧
  (∀ c, c < mN M → w.2.2.2.1 c = jI (dst (mC M) (mO M) r c)) ∧ (∀ c, c < mN M → conn (mC M) (mO M) r c → w.2.2.2.2 c = jI (sumL (gain M) (wy (mC M) (mO M) r c)))
theorem wre_wq (hw : WF2 M) (hS : SS (mC M) (mN M) (mO M) r n n ord prev len) (hx : WRe w M r n ord prev len gn) : WQ M r w := by
  obtain ⟨hd, hv, hfo⟩ := hw
  have hrt := ss_rt hS
  obtain ⟨b1, b2, b3, b4, b5, b6, b7, b8⟩ := hx
  refine ⟨n, ord, prev, len, hS, b1, b2, b3, fun c hc => ?_, fun c hc hcn => ?_⟩
  · by_cases q : Vs n ord c
    · obtain ⟨k, hk, rfl⟩ := q
      rw [b4 k hk, dst_rt hd.1 hfo hrt ⟨k, hk, rfl⟩]
    · rw [b5 c hc q, dst_no (fun z => q ((rt_conn hrt).mpr z))]
  · obtain ⟨k, hk, rfl⟩ := (rt_conn hrt).mpr hcn
    rw [b6 k hk, wy_rt hd.1 hfo hrt ⟨k, hk, rfl⟩]
    congr 1
    clear hcn hc
    induction k using Nat.strongRecOn with
    | ind k ih =>
      rcases Nat.eq_zero_or_pos k with rfl | q
      · rw [hS.2.2.1, hS.2.2.2.1, b7]
        simp [pth, sumL]
      · obtain ⟨j, c1, c2, c3, c4⟩ := hS.2.2.2.2.2.2.1 k q hk
        rw [b8 k q hk, c4, c2, ih j c1 (by omega)]
        simp only [pth, sumL, c2]
        omega
theorem findFrom3 (hF : 36 < F) (h : R3 v M) (hw : WF2 M) (hr : r < mN M) : ∃ w', mX6_findFrom F w v (jI (r : Nat)) = some w' ∧ WQ M r w' := by
  have hd := hw.1
  have hN := dm_le hd
  unfold mX6_findFrom
  rw [fill3 hF (by omega), bnd_s, reachCell3_0 (n := 0) h hd hr jl_0 (by omega), bnd_s]
  simp only [jn_e]
  have key := lpr_r (Q := fun w' => WQ M r w') (L := mX6_findFrom_L22 F v mX6_findFrom_K106) (fun i x => x.1 = jI (i : Nat) ∧ ∃ n ord prev len gn, SS (mC M) (mN M) (mO M) r i n ord prev len ∧ WRe x.2 M r n ord prev len gn) 36 (F := F) (x := ((0 : Int32), (jI ((0 + 1 : Nat) : Int), upd w.2.1 0 (jI (r : Nat)), upd w.2.2.1 r (-1 : Int32), upd (mix 36 (fun _ => (-1 : Int32)) w.2.2.2.1) r (0 : Int32), upd w.2.2.2.2 r (jI (gain M r))))) (by
    intro i x hi ⟨hx1, n, ord, prev, len, gn, hS, hx⟩
    have hnN := ss_n hS
    have hin := hS.2.1
    by_cases e : i = n
    · left
      subst e
      refine ⟨x.2, wre_wq hw hS hx, fun self => ?_⟩
      simp only [mX6_findFrom_L22, hx1, hx.1]
      rw [nle_t (Nat.le_refl _) (by omega)]; rfl
    · right
      have hin2 : i < n := by omega
      obtain ⟨y, hy, hyL⟩ := findFrom_in (F := F) (by omega) h hw hS hin2 hx
      obtain ⟨n', ord', prev', len', gn', hS', hx'⟩ := hy
      refine ⟨by omega, (jI ((i + 1 : Nat) : Int), y), ⟨rfl, n', ord', prev', len', gn', hS', hx'⟩, fun self => ?_⟩
      simp only [mX6_findFrom_L22, hx1, hx.1]
      rw [nle_f hin2 (by omega), jl_36, nle_f (show i < 36 by omega) (by omega), at_i (show i < 36 by omega) (by omega), bnd_s, hx.2.1 i hin2]
      simp only [jn_e]
      rw [hyL]
      simp only [mX6_findFrom_K100, hx1, jS]) ⟨jl_0, 1, fun _ => r, fun _ => 0, fun _ => 0, fun _ => gain M r, ⟨by omega, by omega, rfl, rfl, fun _ _ => hr, fun j k hj hk _ => by omega, fun k hk hk1 => by omega, fun k c hk => by omega⟩, ⟨rfl, fun k hk => by
        obtain rfl : k = 0 := by omega
        show upd w.2.1 0 (jI (r : Nat)) 0 = _
        exact upd_s, fun k hk hk1 => by omega, fun k hk => by
        show upd _ r (0 : Int32) r = _
        rw [upd_s]; rfl, fun c hc hn => by
        show upd _ r (0 : Int32) c = _
        have : c ≠ r := by
          rintro rfl
          exact hn ⟨0, by omega, rfl⟩
        rw [upd_n this, mix_lt (by omega), j_m1], fun k hk => by
        show upd _ r _ r = _
        rw [upd_s], rfl, fun k hk hk1 => by omega⟩⟩ hF
  obtain ⟨w', q1, q2⟩ := key
  exact ⟨w', q2, q1⟩
end BF
end
section
/-! MEASURES: the search of the reference -/
section ME
variable {s : nF} {M : Mz} {c d F n i r : Nat} {ord prev len : Nat → Nat}
def FRe (f q : nF) (M : Mz) (n : Nat) (ord len : Nat → Nat) : Prop :=
  (∀ k, k < n → q k = jI (ord k : Nat)) ∧ (∀ k, k < n → f (ord k) = jI (len (ord k) : Nat)) ∧ (∀ c, c < mN M → ¬ Vs n ord c → f c = jI (-1))
theorem measures_in (hF : 4 < F) (h : R8 s M) (hw : WF2 M) {f q : nF} (hS : SS (mC M) (mN M) (mO M) r i n ord prev len) (hi : i < n) (hx : FRe f q M n ord len) :
    ∃ y : Int32 × nF × nF, (∃ n' ord' prev' len', y.1 = jI (n' : Nat) ∧ SS (mC M) (mN M) (mO M) r (i + 1) n' ord' prev' len' ∧ FRe y.2.1 y.2.2 M n' ord' len') ∧ ∀ j6, lpr (mX8_measures_L57 s (jI (n : Nat), jI (i : Nat), f, q) j6) F (jI (n : Nat), (0 : Int32), f, q) = j6 y := by
  obtain ⟨hd, hv, hfo⟩ := hw
  have hN := dm_le hd
  have hc0 : ord i < mN M := hS.2.2.2.2.1 i hi
  have hnN0 := ss_n hS
  refine lpr_j (L := fun j6 => mX8_measures_L57 s (jI (n : Nat), jI (i : Nat), f, q) j6) (fun d y => y.2.1 = jI (d : Nat) ∧ ∃ n' ord' prev' len', y.1 = jI (n' : Nat) ∧ SS (mC M) (mN M) (mO M) r i n' ord' prev' len' ∧ FRe y.2.2.1 y.2.2.2 M n' ord' len' ∧ i < n' ∧ ord' i = ord i ∧ ∀ d', d' < d → ∀ o, nb (mC M) (mN M) (ord i) d' = some o → mO M (num (mC M) (ord i) d') = true → Vs n' ord' o) 4 ?_ ⟨jl_0, n, ord, prev, len, rfl, hS, hx, hi, rfl, fun d' hd' => by omega⟩ hF
  intro d y hd4 ⟨hy1, n', ord', prev', len', hy2, hS', hx', hi', ho', hn'⟩
  have hnN := ss_n hS'
  have hq : q i = jI (ord i : Nat) := hx.1 i hi
  by_cases e : d = 4
  · left
    subst e
    refine ⟨(y.1, y.2.2.1, y.2.2.2), ⟨n', ord', prev', len', hy2, ss_next hS' hi' (fun c hac => ?_), hx'⟩, fun j self => ?_⟩
    · rw [ho'] at hac
      obtain ⟨d', q1, q2, q3⟩ := (adj_dir hd.1 hd.2.1 hd.2.2.1 hd.2.2.2 hv hc0).mp hac
      exact hn' d' q1 c q2 q3
    · simp only [mX8_measures_L57, hy1, jl_4]
      rw [nle_t (Nat.le_refl _) (by omega)]
  · right
    have hdlt : d < 4 := by omega
    refine ⟨hdlt, ?_⟩
    have hstep : ∀ j self, mX8_measures_L57 s (jI (n : Nat), jI (i : Nat), f, q) j self y = (if opn (mC M) (mN M) (mO M) (ord i) d = true then (if oJ (nb (mC M) (mN M) (ord i) d) < 0 then self (jI (n' : Nat), jI ((d + 1 : Nat) : Int), y.2.2.1, y.2.2.2) else gd (inb (oJ (nb (mC M) (mN M) (ord i) d)) 36) (if 0 ≤ y.2.2.1 (oJ (nb (mC M) (mN M) (ord i) d)).toNatClampNeg then self (jI (n' : Nat), jI ((d + 1 : Nat) : Int), y.2.2.1, y.2.2.2) else gd (inb (oJ (nb (mC M) (mN M) (ord i) d)) 36) (gd (inb (jI (n' : Nat)) 36) (self (jI ((n' + 1 : Nat) : Int), jI ((d + 1 : Nat) : Int), upd y.2.2.1 (oJ (nb (mC M) (mN M) (ord i) d)).toNatClampNeg (y.2.2.1 (ord i) + 1), upd y.2.2.2 n' (oJ (nb (mC M) (mN M) (ord i) d))))))) else self (jI (n' : Nat), jI ((d + 1 : Nat) : Int), y.2.2.1, y.2.2.2)) := by
      intro j self
      simp only [mX8_measures_L57, hy1, hy2, jl_4, jcl i (by omega), hq]
      rw [nle_f hdlt (by omega), isOpen8 h hd hc0 hdlt, bnd_s]
      simp only [jn_e, ifb, jS, besides8 h hd hc0 hdlt, bnd_s, gdi (show ord i < 36 by omega) (show 36 < 100000 by omega), jcl (ord i) (by omega), jcl n' (by omega)]
      split
      · rfl
      · rw [if_pos (by decide)]
    cases hop : opn (mC M) (mN M) (mO M) (ord i) d with
    | false =>
      refine ⟨(jI (n' : Nat), jI ((d + 1 : Nat) : Int), y.2.2.1, y.2.2.2), ⟨rfl, n', ord', prev', len', rfl, hS', hx', hi', ho', fun d' hd' o hno hoo => ?_⟩, fun j self => by rw [hstep, hop, if_neg Bool.noConfusion]⟩
      by_cases q : d' = d
      · subst q
        have : opn (mC M) (mN M) (mO M) (ord i) d' = true := opn_t.mpr ⟨o, hno, hoo⟩
        rw [hop] at this; cases this
      · exact hn' d' (by omega) o hno hoo
    | true =>
      obtain ⟨o, hno, hoo⟩ := opn_t.mp hop
      have hp := nb_pl hd.1 hd.2.1 hd.2.2.1 hd.2.2.2 hc0 hdlt hno
      have hoN : o < mN M := hp.2.2.1
      have hadj : adj (mC M) (mO M) (ord' i) o := by rw [ho']; exact (adj_dir hd.1 hd.2.1 hd.2.2.1 hd.2.2.2 hv hc0).mpr ⟨d, hdlt, hno, hoo⟩
      by_cases hvs : Vs n' ord' o
      · obtain ⟨k, hk, hko⟩ := hvs
        have hl := hx'.2.1 k hk
        rw [hko] at hl
        refine ⟨(jI (n' : Nat), jI ((d + 1 : Nat) : Int), y.2.2.1, y.2.2.2), ⟨rfl, n', ord', prev', len', rfl, hS', hx', hi', ho', fun d' hd' o' hno' hoo' => ?_⟩, fun j self => ?_⟩
        · by_cases q : d' = d
          · subst q
            rw [hno] at hno'; cases hno'
            exact ⟨k, hk, hko⟩
          · exact hn' d' (by omega) o' hno' hoo'
        · have hlk := ss_len hS' k hk
          rw [hko] at hlk
          rw [hstep, hop, if_pos rfl, hno, oJ_some, if_neg (by rw [nn0 (by omega)]; exact id), gdi (by omega) (by omega), jcl _ (by omega), hl, if_pos (by rw [n0l (by omega)]; trivial)]
      · have hl := hx'.2.2 o hoN hvs
        have hS2 := ss_add hS' hi' hoN hadj hvs
        have hn2 := ss_n hS2
        have hne : ∀ k, k < n' → ord' k ≠ o := fun k hk e => hvs ⟨k, hk, e⟩
        refine ⟨(jI ((n' + 1 : Nat) : Int), jI ((d + 1 : Nat) : Int), upd y.2.2.1 o (y.2.2.1 (ord i) + 1), upd y.2.2.2 n' (jI (o : Nat))), ⟨rfl, n' + 1, set1 ord' n' o, set1 prev' o (ord' i), set1 len' o (len' (ord' i) + 1), rfl, hS2, ⟨fun k hk => ?_, fun k hk => ?_, fun c hc hn => ?_⟩, by omega, by rw [set1_n (by omega)]; exact ho', fun d' hd' o' hno' hoo' => ?_⟩, fun j self => ?_⟩
        · show upd y.2.2.2 n' (jI (o : Nat)) k = _
          by_cases e : k = n'
          · subst e; rw [upd_s, set1_s]
          · rw [upd_n e, set1_n e]; exact hx'.1 k (by omega)
        · show upd y.2.2.1 o _ _ = _
          by_cases e : k = n'
          · subst e; rw [set1_s, upd_s, set1_s, ← ho', hx'.2.1 i hi', jS]
          · rw [set1_n e, upd_n (hne k (by omega)), set1_n (hne k (by omega))]; exact hx'.2.1 k (by omega)
        · show upd y.2.2.1 o _ c = _
          have e : c ≠ o := by
            rintro rfl
            exact hn ⟨n', by omega, set1_s⟩
          rw [upd_n e]
          exact hx'.2.2 c hc (fun q => hn (Vs_add q))
        · by_cases q : d' = d
          · subst q
            rw [hno] at hno'; cases hno'
            exact ⟨n', by omega, set1_s⟩
          · exact Vs_add (hn' d' (by omega) o' hno' hoo')
        · rw [hstep, hop, if_pos rfl, hno, oJ_some, if_neg (by rw [nn0 (by omega)]; exact id), gdi (by omega) (by omega), jcl _ (by omega), hl, if_neg (by decide), gdi (by omega) (by omega), gdi (by omega) (by omega)]
theorem measures8 {f0 q0 : nF} (hF : 36 < F) (h : R8 s M) (hw : WF2 M) (hr : r < mN M) : ∃ fq : nF × nF, mX8_measures F s f0 q0 (jI (r : Nat)) = some fq ∧ ∀ c, c < mN M → fq.1 c = jI (dst (mC M) (mO M) r c) := by
  have hd := hw.1
  have hN := dm_le hd
  unfold mX8_measures
  simp only [jn_e]
  have h1 := lpr_fn (L := mX8_measures_L2 s (mX8_measures_K23 F s q0 (jI (r : Nat)))) (e := mX8_measures_K23 F s q0 (jI (r : Nat)) (mix (mN M) (fun _ => (-1 : Int32)) f0)) (F := F) (fun i => (jI (i : Nat), mix i (fun _ => (-1 : Int32)) f0)) (mN M) (by
    intro i hi self
    simp only [mX8_measures_L2, cells8 h, bnd_s]
    rw [nle_f hi (by omega), gdi (by omega) (by omega), jcl _ (by omega), jS, mix_S (f := fun _ => (-1 : Int32))]) (by
    intro self
    simp only [mX8_measures_L2, cells8 h, bnd_s]
    rw [nle_t (Nat.le_refl _) (by omega)]) (by omega)
  simp only [mix_0] at h1
  rw [jl_0, h1]
  simp only [mX8_measures_K23]
  rw [gdi (by omega) (by omega), gl036, jcl _ (by omega), cl0]
  have key := lpr_r (Q := fun fq : nF × nF => ∀ c, c < mN M → fq.1 c = jI (dst (mC M) (mO M) r c)) (L := mX8_measures_L41 F s) (fun i x => x.2.1 = jI (i : Nat) ∧ ∃ n ord prev len, x.1 = jI (n : Nat) ∧ SS (mC M) (mN M) (mO M) r i n ord prev len ∧ FRe x.2.2.1 x.2.2.2 M n ord len) 36 (F := F) (x := ((1 : Int32), (0 : Int32), upd (mix (mN M) (fun _ => (-1 : Int32)) f0) r (0 : Int32), upd q0 0 (jI (r : Nat)))) (by
    intro i x hi ⟨hx1, n, ord, prev, len, hx2, hS, hx⟩
    have hnN := ss_n hS
    have hin := hS.2.1
    by_cases e : i = n
    · left
      subst e
      have hrt := ss_rt hS
      refine ⟨(x.2.2.1, x.2.2.2), fun c hc => ?_, fun self => ?_⟩
      · by_cases q : Vs i ord c
        · obtain ⟨k, hk, rfl⟩ := q
          rw [hx.2.1 k hk, dst_rt hd.1 hw.2.2 hrt ⟨k, hk, rfl⟩]
        · rw [hx.2.2 c hc q, dst_no (fun z => q ((rt_conn hrt).mpr z))]
      · simp only [mX8_measures_L41, hx1, hx2]
        rw [nle_t (Nat.le_refl _) (by omega)]
    · right
      have hin2 : i < n := by omega
      obtain ⟨y, hy, hyL⟩ := measures_in (F := F) (by omega) h hw hS hin2 hx
      obtain ⟨n', ord', prev', len', hy2, hS', hx'⟩ := hy
      refine ⟨by omega, (y.1, jI ((i + 1 : Nat) : Int), y.2.1, y.2.2), ⟨rfl, n', ord', prev', len', hy2, hS', hx'⟩, fun self => ?_⟩
      obtain ⟨x1, x2, x3, x4⟩ := x
      simp only at hx1 hx2
      subst hx1; subst hx2
      simp only [mX8_measures_L41]
      rw [nle_f hin2 (by omega), gdi (by omega) (by omega)]
      simp only [jn_e]
      rw [hyL]
      simp only [mX8_measures_K136, jS]) ⟨jl_0, 1, fun _ => r, fun _ => 0, fun _ => 0, jl_1, ⟨by omega, by omega, rfl, rfl, fun _ _ => hr, fun j k hj hk _ => by omega, fun k hk hk1 => by omega, fun k c hk => by omega⟩, ⟨fun k hk => by
        obtain rfl : k = 0 := by omega
        show upd q0 0 (jI (r : Nat)) 0 = _
        exact upd_s, fun k hk => by
        show upd _ r (0 : Int32) r = _
        rw [upd_s]; rfl, fun c hc hn => by
        show upd _ r (0 : Int32) c = _
        have : c ≠ r := by
          rintro rfl
          exact hn ⟨0, by omega, rfl⟩
        rw [upd_n this, mix_lt hc, j_m1]⟩⟩ hF
  obtain ⟨fq, q1, q2⟩ := key
  exact ⟨fq, q2, q1⟩
end ME
end
section
/-! WAYS: the list of the cells from c to r, cell by cell -/
def itr (prev : Nat → Nat) : Nat → Nat → Nat
  | 0, c => c
  | k + 1, c => itr prev k (prev c)
theorem itr_S {prev : Nat → Nat} : ∀ k c, itr prev (k + 1) c = prev (itr prev k c) := by
  intro k
  induction k with
  | zero => intro c; rfl
  | succ k ih => intro c; show itr prev (k + 1) (prev c) = prev (itr prev k (prev c)); exact ih (prev c)
def nth (l : List Nat) (k : Nat) : Nat := l.getD k 0
theorem nth_pth {prev : Nat → Nat} : ∀ n c k, k ≤ n → nth (pth prev n c) k = itr prev k c := by
  intro n
  induction n with
  | zero => intro c k hk; obtain rfl : k = 0 := by omega
            rfl
  | succ n ih =>
    intro c k hk
    cases k with
    | zero => rfl
    | succ k => exact ih (prev c) k (by omega)
theorem mem_pth {prev : Nat → Nat} : ∀ n c x, x ∈ pth prev n c ↔ ∃ k, k ≤ n ∧ itr prev k c = x := by
  intro n
  induction n with
  | zero =>
    intro c x
    simp only [pth, List.mem_singleton]
    exact ⟨fun h => ⟨0, by omega, h.symm⟩, fun ⟨k, hk, h⟩ => by
      obtain rfl : k = 0 := by omega
      exact h.symm⟩
  | succ n ih =>
    intro c x
    simp only [pth, List.mem_cons, ih]
    constructor
    · rintro (h | ⟨k, hk, h⟩)
      · exact ⟨0, by omega, h.symm⟩
      · exact ⟨k + 1, by omega, h⟩
    · rintro ⟨k, hk, h⟩
      cases k with
      | zero => exact Or.inl h.symm
      | succ k => exact Or.inr ⟨k, by omega, h⟩
section WA
variable {C N r c x y : Nat} {op : Op} {V : Nat → Prop} {len prev : Nat → Nat}
theorem itr_rt (h : RT C op r V len prev) (hc : V c) : ∀ k, k ≤ len c → V (itr prev k c) ∧ len (itr prev k c) + k = len c := by
  intro k
  induction k with
  | zero => intro _; exact ⟨hc, rfl⟩
  | succ k ih =>
    intro hk
    obtain ⟨h1, h2⟩ := ih (by omega)
    have hne : itr prev k c ≠ r := by
      intro e
      rw [e, h.2.1] at h2; omega
    obtain ⟨q1, q2, q3⟩ := h.2.2.1 _ h1 hne
    rw [itr_S]
    exact ⟨q1, by omega⟩
theorem itr_adj (h : RT C op r V len prev) (hc : V c) {k : Nat} (hk : k < len c) : adj C op (itr prev k c) (itr prev (k + 1) c) := by
  obtain ⟨h1, h2⟩ := itr_rt h hc k (by omega)
  have hne : itr prev k c ≠ r := by
    intro e
    rw [e, h.2.1] at h2; omega
  rw [itr_S]
  exact adj_sy (h.2.2.1 _ h1 hne).2.1
theorem itr_inj (h : RT C op r V len prev) (hc : V c) {j k : Nat} (hj : j ≤ len c) (hk : k ≤ len c) (e : itr prev j c = itr prev k c) : j = k := by
  have h1 := (itr_rt h hc j hj).2
  have h2 := (itr_rt h hc k hk).2
  rw [e] at h1
  omega
/-- how many turns -/
def tcn (g : Nat → Int) : Nat → Nat
  | 0 => 0
  | k + 1 => tcn g k + (if 0 < k ∧ g k ≠ g (k - 1) then 1 else 0)
def turnsOf (l : List Nat) : Nat := tcn (fun k => (nth l (k + 1) : Int) - (nth l k : Int)) (l.length - 1)
theorem tcn_congr {f g : Nat → Int} {n : Nat} (h : ∀ k, k < n → f k = g k) : tcn f n = tcn g n := by
  induction n with
  | zero => rfl
  | succ n ih =>
    simp only [tcn]
    rw [ih (fun k hk => h k (by omega)), h n (by omega)]
    by_cases e : 0 < n
    · rw [h (n - 1) (by omega)]
    · simp [e]
theorem tcn_le {g : Nat → Int} {n : Nat} : tcn g n ≤ n := by
  induction n with
  | zero => exact Nat.le_refl _
  | succ n ih => simp only [tcn]; split <;> omega
/-- how the number changes in a direction -/
def dif (C d : Nat) : Int := if d = 0 then -(C : Int) else if d = 1 then 1 else if d = 2 then (C : Int) else -1
theorem nb_dif {d : Nat} (h : nb C N c d = some x) : (x : Int) - (c : Int) = dif C d := by
  unfold nb at h
  unfold dif
  split at h
  · rename_i e
    rw [if_pos e]
    split at h
    · rename_i q
      have : c - C = x := by simpa using h
      omega
    · cases h
  · rename_i e
    rw [if_neg e]
    split at h
    · rename_i e2
      rw [if_pos e2]
      split at h
      · have : c + 1 = x := by simpa using h
        omega
      · cases h
    · rename_i e2
      rw [if_neg e2]
      split at h
      · rename_i e3
        rw [if_pos e3]
        split at h
        · have : c + C = x := by simpa using h
          omega
        · cases h
      · rename_i e3
        rw [if_neg e3]
        split at h
        · rename_i q
          have h0 : c ≠ 0 := by
            rintro rfl
            simp at q
          have : c - 1 = x := by simpa using h
          omega
        · cases h
theorem dif_inj {d d' : Nat} (hC : 2 ≤ C) (hd : d < 4) (hd' : d' < 4) (h : dif C d = dif C d') : d = d' := by
  unfold dif at h
  have g1 : d = 0 ∨ d = 1 ∨ d = 2 ∨ d = 3 := by omega
  have g2 : d' = 0 ∨ d' = 1 ∨ d' = 2 ∨ d' = 3 := by omega
  rcases g1 with rfl | rfl | rfl | rfl <;> rcases g2 with rfl | rfl | rfl | rfl <;> simp at h <;> omega
end WA
/-- a picture of a maze -/
def vOf (M : Mz) : MZ := (jI (mC M : Nat), jI (mR M : Nat), fun c => jI (mT M c : Nat), fun c => jI (mask (mC M) (mN M) (mO M) c : Nat), fun i => if i = 0 then jI (mE M : Nat) else jI (mX M : Nat), fun i => if i = 0 then jI (mEs M : Nat) else jI (mXs M : Nat))
theorem rt_ex {M : Mz} {r : Nat} (hw : WF2 M) (hr : r < mN M) : ∃ V len prev, RT (mC M) (mO M) r V len prev := by
  obtain ⟨w', -, n, ord, prev, len, hS, -⟩ := findFrom3 (F := 100) (w := (0, fun _ => 0, fun _ => 0, fun _ => 0, fun _ => 0)) (v := vOf M) (by omega) ⟨rfl, rfl, fun _ _ => rfl, fun _ _ => rfl, rfl, rfl, rfl, rfl⟩ hw hr
  exact ⟨_, _, _, ss_rt hS⟩
theorem nar1 : vp_nar .boolean (1 : Int32) = jI ((b01 true : Nat) : Int) := by decide +kernel
theorem nar0 : vp_nar .boolean (0 : Int32) = jI ((b01 false : Nat) : Int) := by decide +kernel
section FW
variable {s : nF} {M : Mz} {c d F n i r x : Nat}
theorem conn_N (hw : WF2 M) (h : conn (mC M) (mO M) r c) (hr : r < mN M) : c < mN M := conn_lt (vO_inG hw.1.1 hw.1.2.1 hw.1.2.2.1 hw.1.2.2.2 hw.2.1) h hr
theorem dst_lt (hw : WF2 M) (hr : r < mN M) (hc : c < mN M) : dst (mC M) (mO M) r c < (mN M : Int) := by
  obtain ⟨w', -, n, ord, prev, len, hS, -⟩ := findFrom3 (F := 100) (w := (0, fun _ => 0, fun _ => 0, fun _ => 0, fun _ => 0)) (v := vOf M) (by omega) ⟨rfl, rfl, fun _ _ => rfl, fun _ _ => rfl, rfl, rfl, rfl, rfl⟩ hw hr
  have hN := dm_le hw.1
  have hrt := ss_rt hS
  by_cases q : Vs n ord c
  · obtain ⟨k, hk, rfl⟩ := q
    rw [dst_rt hw.1.1 hw.2.2 hrt ⟨k, hk, rfl⟩]
    have := ss_len hS k hk
    have := ss_n hS
    omega
  · rw [dst_no (fun z => q ((rt_conn hrt).mpr z))]
    omega
theorem dst_b (hw : WF2 M) (hr : r < mN M) (hc : c < mN M) : -2147483648 ≤ dst (mC M) (mO M) r c ∧ dst (mC M) (mO M) r c < 2147483648 := by
  have hN := dm_le hw.1
  have := dst_lt hw hr hc
  have := dst_ge (C := mC M) (op := mO M) (r := r) (c := c)
  omega
/-- what findsWay leaves -/
def FWs (M : Mz) (x : Nat) (z : Int32 × nF × nF × nF × nF × Int32 × Int32) : Prop :=
  z.1 = bI (decide (0 ≤ dst (mC M) (mO M) x (mE M))) ∧ (∀ c, c < mN M → z.2.2.2.1 c = jI (b01 (decide (c ∈ wy (mC M) (mO M) x (mE M))) : Nat)) ∧
  (∀ k, k < (wy (mC M) (mO M) x (mE M)).length → z.2.2.2.2.1 k = jI (nth (wy (mC M) (mO M) x (mE M)) k : Nat)) ∧ z.2.2.2.2.2.1 = jI ((wy (mC M) (mO M) x (mE M)).length : Nat) ∧ z.2.2.2.2.2.2 = jI (turnsOf (wy (mC M) (mO M) x (mE M)) : Nat)
/-- the direction of the next step is found -/
theorem fw_dir (hF : 4 < F) (h : R8 s M) (hw : WF2 M) {r3 : nF × nF} {a y : Nat} {x4 : Int32 × Int32 × nF × nF × Int32 × Int32} (hx4 : x4.1 = jI (a : Nat)) (ha : a < mN M) (hfar : ∀ c, c < mN M → r3.1 c = jI (dst (mC M) (mO M) x c)) (hxN : x < mN M)
    (hn : nb (mC M) (mN M) a d = some y) (hd4 : d < 4) (ho : mO M (num (mC M) a d) = true) (hy : dst (mC M) (mO M) x y = dst (mC M) (mO M) x a - 1)
    (hun : ∀ y', adj (mC M) (mO M) a y' → dst (mC M) (mO M) x y' = dst (mC M) (mO M) x a - 1 → y' = y) : ∀ j7, lpr (mX8_findsWay_L92 s r3 x4 j7) F ((-1 : Int32), (0 : Int32)) = j7 (jI (d : Nat)) := by
  obtain ⟨hd, hv, hfo⟩ := hw
  have hw : WF2 M := ⟨hd, hv, hfo⟩
  have hN := dm_le hd
  intro j7
  have hst : ∀ i, i < 4 → ∀ self : (Int32 × Int32) → Option (Int32 × nF × nF × nF × nF × Int32 × Int32), ∀ w : Int32, mX8_findsWay_L92 s r3 x4 j7 self (w, jI (i : Nat)) = self (if i = d then jI (d : Nat) else w, jI ((i + 1 : Nat) : Int)) := by
    intro i hi self w
    simp only [mX8_findsWay_L92, jl_4, hx4]
    rw [nle_f hi (by omega), isOpen8 h hd ha hi, bnd_s]
    simp only [jn_e, ifb, jS, besides8 h hd ha hi, bnd_s, gdi (show a < 36 by omega) (show 36 < 100000 by omega), jcl a (by omega), hfar a ha]
    by_cases hop : opn (mC M) (mN M) (mO M) a i = true
    · obtain ⟨o, hno, hoo⟩ := opn_t.mp hop
      have hoN := (num_lt hd ha hi hno).2
      have hadj := (adj_dir hd.1 hd.2.1 hd.2.2.1 hd.2.2.2 hv ha).mpr ⟨i, hi, hno, hoo⟩
      rw [if_pos hop, hno, oJ_some, gdi (by omega) (by omega), jcl o (by omega), hfar o hoN, j_1, jI_sub]
      have b1 := dst_b hw hxN hoN
      have b2 := dst_lt hw hxN ha
      have b3 := dst_ge (C := mC M) (op := mO M) (r := x) (c := a)
      by_cases e : dst (mC M) (mO M) x o = dst (mC M) (mO M) x a - 1
      · rw [jeq_t e]
        have hoy := hun o hadj e
        subst hoy
        have hdi : i = d := dif_inj hd.1 hi hd4 (by rw [← nb_dif hno, ← nb_dif hn])
        rw [if_pos hdi, hdi]
      · rw [jeq_f b1 (by omega) e]
        have hdi : i ≠ d := by
          rintro rfl
          rw [hn] at hno; cases hno
          exact e hy
        rw [if_neg hdi]
    · rw [if_neg hop]
      have hdi : i ≠ d := by
        rintro rfl
        exact hop (opn_t.mpr ⟨y, hn, ho⟩)
      rw [if_neg hdi]
  have := lpr_fn (L := mX8_findsWay_L92 s r3 x4 j7) (e := j7 (jI (d : Nat))) (F := F) (fun i => ((if d < i then jI (d : Nat) else (-1 : Int32)), jI (i : Nat))) 4 (by
    intro i hi self
    rw [hst i hi]
    congr 2
    by_cases e : i = d
    · rw [if_pos e, if_pos (by omega)]
    · rw [if_neg e]
      by_cases q : d < i
      · rw [if_pos q, if_pos (by omega)]
      · rw [if_neg q, if_neg (by omega)]) (by
    intro self
    simp only [mX8_findsWay_L92, jl_4]
    rw [nle_t (Nat.le_refl _) (by omega), if_pos hd4]) hF
  rw [if_neg (by omega)] at this
  rw [← this, jl_0]
end FW
end
section
/-! FAULTS: the way of the reference, the fault of the way -/
theorem bnat {b : Bool} : bI b = jI (b01 b : Nat) := by cases b <;> decide +kernel
theorem gl036_j {β : Type} {K : Option β} : gd (inb (jI 0) 36) K = K := gdi (a := 0) (by omega) (by omega)
theorem tcn_ite {β : Type} {x d a : Int32} {f : Int32 → Option β} : f (a + (if x < 0 then (0 : Int32) else if d = x then 0 else 1)) = (if x < 0 then f (a + 0) else if d = x then f (a + 0) else f (a + 1)) := by
  by_cases h : x < 0
  · rw [if_pos h, if_pos h]
  · rw [if_neg h, if_neg h]
    by_cases h2 : d = x
    · rw [if_pos h2, if_pos h2]
    · rw [if_neg h2, if_neg h2]
section FT
variable {s : nF} {M : Mz} {c d F n i r x : Nat}
theorem findsWay8 {f0 q0 o0 st0 : nF} {wc tu : Int32} (hF : 36 < F) (h : R8 s M) (hw : WF2 M) (hx : x < mN M) (hE : mE M < mN M) : ∃ z, mX8_findsWay F s f0 q0 o0 st0 wc tu (jI (x : Nat)) = some z ∧ FWs M x z := by
  have hd := hw.1
  have hN := dm_le hd
  unfold mX8_findsWay
  simp only [jn_e]
  have h1 := lpr_fn (L := mX8_findsWay_L2 s (mX8_findsWay_K23 F s f0 q0 st0 (jI (x : Nat)))) (e := mX8_findsWay_K23 F s f0 q0 st0 (jI (x : Nat)) (mix (mN M) (fun _ => jI ((b01 false : Nat) : Int)) o0)) (F := F) (fun i => (jI (i : Nat), mix i (fun _ => jI ((b01 false : Nat) : Int)) o0)) (mN M) (by
    intro i hi self
    simp only [mX8_findsWay_L2, cells8 h, bnd_s]
    rw [nle_f hi (by omega), gdi (by omega) (by omega), jcl _ (by omega), jS, nar0, mix_S (f := fun _ => jI ((b01 false : Nat) : Int))]) (by
    intro self
    simp only [mX8_findsWay_L2, cells8 h, bnd_s]
    rw [nle_t (Nat.le_refl _) (by omega)]) (by omega)
  simp only [mix_0] at h1
  rw [jl_0, h1]
  obtain ⟨⟨fa, qu⟩, hm, hfar⟩ := measures8 (f0 := f0) (q0 := q0) hF h hw hx
  simp only [mX8_findsWay_K23, hm, bnd_s, gl2, cl2, h.2.2.1]
  have hfar : ∀ c, c < mN M → fa c = jI (dst (mC M) (mO M) x c) := hfar
  rw [gdi (by omega) (by omega), jcl _ (by omega), hfar _ hE]
  have b1 := dst_b hw hx hE
  have b2 := dst_lt hw hx hE
  by_cases hcn : conn (mC M) (mO M) x (mE M)
  · have hdp := dst_c.mpr hcn
    rw [j_0, jle_t (by omega) b1 hdp, gdi (by omega) (by omega), gl036_j]
    obtain ⟨V, len, prev, hrt⟩ := rt_ex hw hx
    have hV := (rt_conn hrt).mpr hcn
    have hwy := wy_rt hd.1 hw.2.2 hrt hV
    have hdE := dst_rt hd.1 hw.2.2 hrt hV
    have hlen : len (mE M) < mN M := by omega
    have hVN : ∀ c, V c → c < mN M := fun c hc => conn_N hw ((rt_conn hrt).mp hc) hx
    have key := lpr_r (Q := fun z => FWs M x z) (L := mX8_findsWay_L77 F s (fa, qu)) (fun k y => y.1 = jI (itr prev k (mE M) : Nat) ∧ (k = 0 ∧ y.2.1 = jI (-1) ∨ ∃ dk, 0 < k ∧ dk < 4 ∧ y.2.1 = jI (dk : Nat) ∧ nb (mC M) (mN M) (itr prev (k - 1) (mE M)) dk = some (itr prev k (mE M))) ∧ (∀ c, c < mN M → ∃ b : Bool, y.2.2.1 c = jI (b01 b : Nat) ∧ (b = true ↔ ∃ j, j ≤ k ∧ itr prev j (mE M) = c)) ∧ (∀ j, j ≤ k → y.2.2.2.1 j = jI (itr prev j (mE M) : Nat)) ∧ y.2.2.2.2.1 = jI ((k + 1 : Nat) : Int) ∧ y.2.2.2.2.2 = jI (tcn (fun k => (itr prev (k + 1) (mE M) : Int) - (itr prev k (mE M) : Int)) k : Nat)) (len (mE M)) (F := F) (x := (jI (mE M : Nat), (-1 : Int32), upd (mix (mN M) (fun _ => jI ((b01 false : Nat) : Int)) o0) (mE M) (vp_nar .boolean (1 : Int32)), upd st0 (jI 0).toNatClampNeg (jI (mE M : Nat)), (1 : Int32), jI 0)) (by
      intro k y hk ⟨y1, y2, y3, y4, y5, y6⟩
      obtain ⟨hVk, hlk⟩ := itr_rt hrt hV k hk
      have hkN := hVN _ hVk
      have hdk := dst_rt hd.1 hw.2.2 hrt hVk
      by_cases e : k = len (mE M)
      · left
        subst e
        refine ⟨((1 : Int32), fa, qu, y.2.2.1, y.2.2.2.1, y.2.2.2.2.1, y.2.2.2.2.2), ⟨?_, fun c hc => ?_, fun j hj => ?_, ?_, ?_⟩, fun self => ?_⟩
        · rw [bI_p hdp]
        · obtain ⟨b, hb1, hb2⟩ := y3 c hc
          show y.2.2.1 c = _
          rw [hb1, hwy]
          congr 3
          rw [Bool.eq_iff_iff, hb2, decide_eq_true_iff, mem_pth]
        · rw [hwy, pth_len] at hj
          show y.2.2.2.1 j = _
          rw [y4 j (by omega), hwy, nth_pth _ _ _ (by omega)]
        · show y.2.2.2.2.1 = _
          rw [y5, hwy, pth_len]
        · show y.2.2.2.2.2 = _
          rw [y6, hwy]
          unfold turnsOf
          rw [pth_len]
          congr 2
          refine tcn_congr (fun k hk => ?_)
          rw [nth_pth _ _ _ (by omega), nth_pth _ _ _ (by omega)]
        · simp only [mX8_findsWay_L77, y1]
          rw [gdi (by omega) (by omega), jcl _ (by omega), hfar _ hkN, hdk, show len (itr prev (len (mE M)) (mE M)) = 0 by omega, jl_0, nle_t (Nat.le_refl _) (by omega), gz1]
      · right
        have hklt : k < len (mE M) := by omega
        have hadj := itr_adj hrt hV hklt
        obtain ⟨hVk1, hlk1⟩ := itr_rt hrt hV (k + 1) hklt
        have hk1N := hVN _ hVk1
        have hdk1 := dst_rt hd.1 hw.2.2 hrt hVk1
        obtain ⟨dn, q1, q2, q3⟩ := (adj_dir hd.1 hd.2.1 hd.2.2.1 hd.2.2.2 hw.2.1 hkN).mp hadj
        have hL92 := fw_dir (F := F) (r3 := (fa, qu)) (x4 := y) (by omega) h hw y1 hkN hfar hx q2 q1 q3 (by rw [hdk1, hdk]; omega) (fun y' hy' hdy => by
          have hVy := hrt.2.2.2 _ _ hVk hy'
          have := (rt_nearer hd.1 hw.2.2 hrt hVk hy' (by
            rw [dst_rt hd.1 hw.2.2 hrt hVy, hdk] at hdy
            omega)).2
          rw [itr_S]; exact this.symm)
        have hinc : (if y.2.1 < 0 then (0 : Int32) else if jI (dn : Nat) = y.2.1 then 0 else 1) = jI ((if 0 < k ∧ ((itr prev (k + 1) (mE M) : Int) - (itr prev k (mE M) : Int)) ≠ ((itr prev (k - 1 + 1) (mE M) : Int) - (itr prev (k - 1) (mE M) : Int)) then 1 else 0 : Nat) : Int) := by
          rcases y2 with ⟨e0, e1⟩ | ⟨dk, e0, e1, e2, e3⟩
          · rw [e1, if_pos (by decide), if_neg (by omega)]; rfl
          · rw [e2, if_neg (by rw [nn0 (by omega)]; exact id), show k - 1 + 1 = k by omega, nb_dif q2, nb_dif e3]
            by_cases q : dn = dk
            · subst q; rw [if_pos rfl, if_neg (by simp)]; rfl
            · rw [neq_f q (by omega) (by omega), if_pos ⟨e0, fun z => q (dif_inj hd.1 q1 e1 z)⟩]; rfl
        refine ⟨hklt, (jI (itr prev (k + 1) (mE M) : Nat), jI (dn : Nat), upd y.2.2.1 (itr prev (k + 1) (mE M)) (vp_nar .boolean (1 : Int32)), upd y.2.2.2.1 (k + 1) (jI (itr prev (k + 1) (mE M) : Nat)), jI ((k + 1 + 1 : Nat) : Int), jI (tcn (fun k => (itr prev (k + 1) (mE M) : Int) - (itr prev k (mE M) : Int)) (k + 1) : Nat)), ⟨rfl, Or.inr ⟨dn, by omega, q1, rfl, q2⟩, fun c hc => ?_, fun j hj => ?_, rfl, rfl⟩, fun self => ?_⟩
        · show ∃ b : Bool, upd y.2.2.1 (itr prev (k + 1) (mE M)) _ c = _ ∧ _
          by_cases q : c = itr prev (k + 1) (mE M)
          · exact ⟨true, by rw [q, upd_s, nar1], fun _ => ⟨k + 1, by omega, q.symm⟩, fun _ => rfl⟩
          · obtain ⟨b, hb1, hb2⟩ := y3 c hc
            refine ⟨b, by rw [upd_n q, hb1], hb2.trans ⟨fun ⟨j, g1, g2⟩ => ⟨j, by omega, g2⟩, fun ⟨j, g1, g2⟩ => ?_⟩⟩
            by_cases z : j = k + 1
            · subst z; exact absurd g2.symm q
            · exact ⟨j, by omega, g2⟩
        · show upd y.2.2.2.1 (k + 1) _ j = _
          by_cases q : j = k + 1
          · subst q; rw [upd_s]
          · rw [upd_n q]; exact y4 j (by omega)
        · simp only [mX8_findsWay_L77, y1]
          rw [gdi (by omega) (by omega), jcl _ (by omega), hfar _ hkN, hdk, if_neg (by rw [nle0 (by omega)]; omega)]
          simp only [jn_e]
          rw [hL92]
          simp only [mX8_findsWay_K146, jn_e, y1, besides8 h hd hkN q1, q2, bnd_s, oJ_some, y5, y6]
          have hfin : ∀ t : Int32, t = jI ((if 0 < k ∧ ((itr prev (k + 1) (mE M) : Int) - (itr prev k (mE M) : Int)) ≠ ((itr prev (k - 1 + 1) (mE M) : Int) - (itr prev (k - 1) (mE M) : Int)) then 1 else 0 : Nat) : Int) →
              gd (inb (oJ (nb (mC M) (mN M) (itr prev k (mE M)) dn)) 36) (gd (inb (jI ((k + 1 : Nat) : Int)) 36) (self (oJ (nb (mC M) (mN M) (itr prev k (mE M)) dn), jI (dn : Nat), upd y.2.2.1 (oJ (nb (mC M) (mN M) (itr prev k (mE M)) dn)).toNatClampNeg (vp_nar .boolean (1 : Int32)), upd y.2.2.2.1 (jI ((k + 1 : Nat) : Int)).toNatClampNeg (oJ (nb (mC M) (mN M) (itr prev k (mE M)) dn)), jI ((k + 1 : Nat) : Int) + 1, jI (tcn (fun k => (itr prev (k + 1) (mE M) : Int) - (itr prev k (mE M) : Int)) k : Nat) + t))) =
              self (jI (itr prev (k + 1) (mE M) : Nat), jI (dn : Nat), upd y.2.2.1 (itr prev (k + 1) (mE M)) (vp_nar .boolean (1 : Int32)), upd y.2.2.2.1 (k + 1) (jI (itr prev (k + 1) (mE M) : Nat)), jI ((k + 1 + 1 : Nat) : Int), jI (tcn (fun k => (itr prev (k + 1) (mE M) : Int) - (itr prev k (mE M) : Int)) (k + 1) : Nat)) := by
            intro t ht
            rw [ht, show nb (mC M) (mN M) (itr prev k (mE M)) dn = some (itr prev (k + 1) (mE M)) from q2, oJ_some, gdi (by omega) (by omega), gdi (by omega) (by omega), jcl _ (by omega), jcl _ (by omega), jS, jnA]
            rfl
          by_cases z1 : y.2.1 < 0
          · rw [if_pos z1] at hinc ⊢
            exact hfin _ hinc
          · rw [if_neg z1] at hinc ⊢
            by_cases z2 : jI (dn : Nat) = y.2.1
            · rw [if_pos z2] at hinc ⊢
              exact hfin _ hinc
            · rw [if_neg z2] at hinc ⊢
              exact hfin _ hinc) ⟨rfl, Or.inl ⟨rfl, j_m1⟩, fun c hc => by
        show ∃ b : Bool, upd _ (mE M) _ c = _ ∧ _
        by_cases q : c = mE M
        · exact ⟨true, by rw [q, upd_s, nar1], fun _ => ⟨0, by omega, q.symm⟩, fun _ => rfl⟩
        · refine ⟨false, by rw [upd_n q, mix_lt hc], fun z => (by cases z), fun ⟨j, g1, g2⟩ => ?_⟩
          obtain rfl : j = 0 := by omega
          exact absurd g2.symm q, fun j hj => by
        obtain rfl : j = 0 := by omega
        show upd st0 (jI 0).toNatClampNeg _ 0 = _
        rw [show (jI 0).toNatClampNeg = 0 from jcl 0 (by omega), upd_s]; rfl, jl_1, rfl⟩ (by omega)
    obtain ⟨z, z1, z2⟩ := key
    refine ⟨z, ?_, z1⟩
    rw [← z2]
  · have hdn := dst_no hcn
    rw [j_0, jle_f (by omega) b1 (by omega)]
    refine ⟨_, rfl, ?_, fun c hc => ?_, fun k hk => ?_, ?_, ?_⟩
    · rw [bI_n (by omega)]; rfl
    · rw [wy_no hcn]
      show mix (mN M) (fun _ => jI ((b01 false : Nat) : Int)) o0 c = jI (b01 (decide (c ∈ ([] : List Nat))) : Nat)
      rw [mix_lt hc]
      rw [decide_eq_false (by simp)]
    · rw [wy_no hcn] at hk
      simp at hk
    · rw [wy_no hcn]; rfl
    · rw [wy_no hcn]; rfl
end FT
end
section
/-! WAY FAULTS and what both sides answer of the way -/
noncomputable def faultI (M : Mz) (x : Nat) : Int := (toneS M : Int) + sumL (gain M) (wy (mC M) (mO M) x (mE M))
theorem sumN_b {f : Nat → Int} {n : Nat} {b : Int} (h : ∀ c, c < n → 0 ≤ f c ∧ f c ≤ b) : 0 ≤ sumN f n ∧ sumN f n ≤ b * n := by
  induction n with
  | zero => simp [sumN]
  | succ n ih =>
    simp only [sumN]
    have h1 := ih (fun c hc => h c (by omega))
    have h2 := h n (by omega)
    have e : b * ((n + 1 : Nat) : Int) = b * n + b := by rw [Int.natCast_add, Int.mul_add]; simp
    rw [e]
    omega
section WF8
variable {v : MZ} {w : WY} {s : nF} {M : Mz} {c d F n i r x : Nat} {a : Int}
theorem wy_N (hw : WF2 M) (hr : r < mN M) : ∀ y ∈ wy (mC M) (mO M) r c, y < mN M := by
  intro y hy
  by_cases h : conn (mC M) (mO M) r c
  · obtain ⟨h1, h2, h3, h4⟩ := wy_spec h
    have h5 := wk_conn h1 h3 hy
    exact conn_N hw (conn_tr h h5) hr
  · rw [wy_no h] at hy
    cases hy
theorem wy_nd : (wy (mC M) (mO M) r c).Nodup := by
  by_cases h : conn (mC M) (mO M) r c
  · exact (wy_spec h).2.1
  · rw [wy_no h]; exact List.nodup_nil
theorem fault_sum (hw : WF2 M) (hx : x < mN M) : sumN (fun c => if c ∈ wy (mC M) (mO M) x (mE M) then 9 - (mT M c : Int) else (mT M c : Int)) (mN M) = faultI M x := by
  unfold faultI toneS
  rw [← sN_cast, ← sumL_N (wy_nd (M := M)) (wy_N hw hx), ← sumN_add]
  refine sumN_congr (fun c _ => ?_)
  by_cases h : c ∈ wy (mC M) (mO M) x (mE M)
  · rw [if_pos h, if_pos h]; unfold gain; omega
  · rw [if_neg h, if_neg h]; omega
theorem fault_b (hw : WF2 M) (ht : ∀ c, c < mN M → mT M c ≤ 9) (hx : x < mN M) : 0 ≤ faultI M x ∧ faultI M x ≤ 324 := by
  have hN := dm_le hw.1
  rw [← fault_sum hw hx]
  have := sumN_b (f := fun c => if c ∈ wy (mC M) (mO M) x (mE M) then 9 - (mT M c : Int) else (mT M c : Int)) (n := mN M) (b := 9) (fun c hc => by
    have := ht c hc
    show 0 ≤ (if c ∈ wy (mC M) (mO M) x (mE M) then 9 - (mT M c : Int) else (mT M c : Int)) ∧ (if c ∈ wy (mC M) (mO M) x (mE M) then 9 - (mT M c : Int) else (mT M c : Int)) ≤ 9
    split <;> omega)
  omega
theorem b01_0 {b : Bool} : (jI (b01 b : Nat) = 0) = (b = false) := by cases b <;> decide +kernel
theorem faultTo8 {f0 q0 o0 st0 : nF} {wc tu : Int32} (hF : 36 < F) (h : R8 s M) (hw : WF2 M) (hx : x < mN M) (hE : mE M < mN M) : ∃ z, mX8_faultTo F s f0 q0 o0 st0 wc tu (jI (x : Nat)) = some z ∧ z.1 = jI (faultI M x) := by
  have hN := dm_le hw.1
  obtain ⟨z, z1, z2, z3, z4, z5, z6⟩ := findsWay8 (f0 := f0) (q0 := q0) (o0 := o0) (st0 := st0) (wc := wc) (tu := tu) hF h hw hx hE
  unfold mX8_faultTo
  rw [z1, bnd_s]
  have := lpr_fn (L := mX8_faultTo_L11 s z) (e := some (jI (faultI M x), z.2.1, z.2.2.1, z.2.2.2.1, z.2.2.2.2.1, z.2.2.2.2.2.1, z.2.2.2.2.2.2)) (F := F) (fun i => (jI (sumN (fun c => if c ∈ wy (mC M) (mO M) x (mE M) then 9 - (mT M c : Int) else (mT M c : Int)) i), jI (i : Nat))) (mN M) (by
    intro i hi self
    simp only [mX8_faultTo_L11, cells8 h, bnd_s, jn_e]
    rw [nle_f hi (by omega), gdi (by omega) (by omega), jcl _ (by omega), z3 i hi, j6p, gdi (by omega) (by omega), gdi (by omega) (by omega), jcl _ (by omega), h.2.2.2.2.2.2.1 i hi, jS]
    by_cases q : i ∈ wy (mC M) (mO M) x (mE M)
    · rw [if_neg (by rw [b01_0, decide_eq_true q]; exact Bool.noConfusion), j_9, jI_sub, jI_add]
      simp only [sumN, if_pos q]
    · rw [if_pos (by rw [b01_0, decide_eq_false q]), jI_add]
      simp only [sumN, if_neg q]) (by
    intro self
    simp only [mX8_faultTo_L11, cells8 h, bnd_s]
    rw [nle_t (Nat.le_refl _) (by omega), fault_sum hw hx]) (by omega)
  refine ⟨(jI (faultI M x), z.2.1, z.2.2.1, z.2.2.2.1, z.2.2.2.2.1, z.2.2.2.2.2.1, z.2.2.2.2.2.2), ?_, rfl⟩
  rw [← this]; rfl
theorem wayFault8 {f0 q0 o0 st0 : nF} {wc tu : Int32} (hF : 36 < F) (h : R8 s M) (hw : WF2 M) (hX : mX M < mN M) (hE : mE M < mN M) : ∃ z, mX8_wayFault F s f0 q0 o0 st0 wc tu = some z ∧ z.1 = jI (faultI M (mX M)) := by
  obtain ⟨z, z1, z2⟩ := faultTo8 (f0 := f0) (q0 := q0) (o0 := o0) (st0 := st0) (wc := wc) (tu := tu) hF h hw hX hE
  unfold mX8_wayFault
  rw [gl4, cl4, h.2.2.2.2.1, z1, bnd_s]
  exact ⟨_, rfl, z2⟩
theorem entry3 (h : R3 v M) : mX3_entryCell v = some (jI (mE M : Nat)) := by
  unfold mX3_entryCell
  rw [jl_0, at_i (by omega) (by omega), bnd_s, h.2.2.2.2.1]
theorem exit3 (h : R3 v M) : mX3_exitCell v = some (jI (mX M : Nat)) := by
  unfold mX3_exitCell
  rw [jl_1, at_i (by omega) (by omega), bnd_s, h.2.2.2.2.2.1]
theorem wq_len (hw : WF2 M) (hr : r < mN M) (hc : c < mN M) (hq : WQ M r w) : mX6_lengthTo w (jI (c : Nat)) = some (jI (dst (mC M) (mO M) r c)) := by
  have hN := dm_le hw.1
  obtain ⟨n, ord, prev, len, -, -, -, -, q, -⟩ := hq
  rw [lengthTo3 (by omega), q c hc]
theorem wq_reach (hw : WF2 M) (hr : r < mN M) (hc : c < mN M) (hq : WQ M r w) : mX6_reach w (jI (c : Nat)) = some (bI (decide (0 ≤ dst (mC M) (mO M) r c))) := by
  have hN := dm_le hw.1
  obtain ⟨n, ord, prev, len, -, -, -, -, q, -⟩ := hq
  rw [reach3 (by omega) (dst_b hw hr hc) (q c hc)]
  have := dst_ge (C := mC M) (op := mO M) (r := r) (c := c)
  congr 2
  exact decide_eq_decide.mpr (by omega)
theorem hasWay3 (hF : 36 < F) (h : R3 v M) (hw : WF2 M) (hX : mX M < mN M) (hE : mE M < mN M) : ∃ w', mX7_hasWay F v w = some (bI (decide (0 ≤ dst (mC M) (mO M) (mX M) (mE M))), w') ∧ WQ M (mX M) w' := by
  obtain ⟨w', w1, w2⟩ := findFrom3 (w := w) hF h hw hX
  unfold mX7_hasWay
  rw [exit3 h, bnd_s, w1, bnd_s, entry3 h, bnd_s, wq_reach hw hX hE w2, bnd_s, gzb]
  exact ⟨_, rfl, w2⟩
theorem wq_gain (hw : WF2 M) (hc : c < mN M) (hq : WQ M r w) (hcn : conn (mC M) (mO M) r c) : mX7_at 36 w.2.2.2.2 (jI (c : Nat)) = some (jI (sumL (gain M) (wy (mC M) (mO M) r c))) := by
  have hN := dm_le hw.1
  obtain ⟨n, ord, prev, len, -, -, -, -, -, q⟩ := hq
  rw [at_i (by omega) (by omega), q c hc hcn]
theorem wayFault3 (hF : 36 < F) (h : R3 v M) (hw : WF2 M) (hX : mX M < mN M) (hE : mE M < mN M) : ∃ w', mX7_wayFault F v w = some (jI (faultI M (mX M)), w') := by
  obtain ⟨w', w1, w2⟩ := hasWay3 (w := w) hF h hw hX hE
  unfold mX7_wayFault
  rw [toneSum3 hF h hw.1, bnd_s, w1, bnd_s]
  simp only [jn_e, ifb]
  by_cases q : 0 ≤ dst (mC M) (mO M) (mX M) (mE M)
  · rw [if_pos (decide_eq_true q), entry3 h, bnd_s, wq_gain hw hE w2 (dst_c.mp q), bnd_s, jI_add]
    exact ⟨_, rfl⟩
  · rw [if_neg (by rw [decide_eq_false q]; exact Bool.noConfusion)]
    refine ⟨w', ?_⟩
    unfold faultI
    rw [wy_no (fun z => q (dst_c.mpr z))]
    simp [sumL]
/-- what way answers -/
noncomputable def wayA (M : Mz) (a : Int) : Int := if a < 0 then -1 else if a < ((wy (mC M) (mO M) (mX M) (mE M)).length : Int) then (nth (wy (mC M) (mO M) (mX M) (mE M)) a.toNat : Int) else -4
theorem wq_prev (hw : WF2 M) (hq : WQ M r w) : ∃ V len prev, RT (mC M) (mO M) r V len prev ∧ ∀ c, V c → c ≠ r → w.2.2.1 c = jI (prev c : Nat) := by
  obtain ⟨n, ord, prev, len, hS, -, -, q, -, -⟩ := hq
  refine ⟨_, _, _, ss_rt hS, ?_⟩
  rintro c ⟨k, hk, rfl⟩ hne
  refine q k ?_ hk
  rcases Nat.eq_zero_or_pos k with rfl | z
  · exact absurd hS.2.2.1 hne
  · exact z
theorem way3 (hF : 36 < F) (h : R3 v M) (hw : WF2 M) (hX : mX M < mN M) (hE : mE M < mN M) (hb : -2147483648 ≤ a ∧ a < 2147483648) : ∃ w', mX7_way F v w (jI a) = some (jI (wayA M a), w') := by
  have hN := dm_le hw.1
  unfold mX7_way wayA
  by_cases h0 : a < 0
  · rw [j_0, jle_f (by omega) hb h0, if_pos h0]
    exact ⟨_, rfl⟩
  · rw [j_0, jle_t (by omega) hb (by omega), if_neg h0]
    obtain ⟨w', w1, w2⟩ := findFrom3 (w := w) hF h hw hX
    rw [exit3 h, bnd_s, w1, bnd_s, entry3 h, bnd_s, wq_len hw hX hE w2, bnd_s]
    have b1 := dst_b hw hX hE
    have b2 := dst_lt hw hX hE
    have hdl : ((wy (mC M) (mO M) (mX M) (mE M)).length : Int) = dst (mC M) (mO M) (mX M) (mE M) + 1 := by unfold dst; omega
    by_cases h1 : a ≤ dst (mC M) (mO M) (mX M) (mE M)
    · rw [jle_t hb b1 h1, if_pos (by omega), bnd_s]
      have hcn := dst_c.mp (show 0 ≤ dst (mC M) (mO M) (mX M) (mE M) by omega)
      obtain ⟨V, len, prev, hrt, hpv⟩ := wq_prev hw w2
      have hV := (rt_conn hrt).mpr hcn
      have hdE := dst_rt hw.1.1 hw.2.2 hrt hV
      have hwy := wy_rt hw.1.1 hw.2.2 hrt hV
      have ha : a = ((a.toNat : Nat) : Int) := by omega
      have := lpr_fn (L := mX7_way_L55 (jI a) w') (e := some (jI (itr prev a.toNat (mE M) : Nat), w')) (F := F) (fun i => (jI (itr prev i (mE M) : Nat), jI (i : Nat))) a.toNat (by
        intro i hi self
        obtain ⟨hVi, hli⟩ := itr_rt hrt hV i (by omega)
        have hiN := conn_N hw ((rt_conn hrt).mp hVi) hX
        simp only [mX7_way_L55]
        rw [ha, nle_f (by omega) (by omega), at_i (by omega) (by omega), bnd_s, hpv _ hVi (by intro e; rw [e, hrt.2.1] at hli; omega), jS, itr_S]) (by
        intro self
        simp only [mX7_way_L55]
        rw [ha, nle_t (by omega) (by omega)]) (by omega)
      refine ⟨w', ?_⟩
      rw [hwy, nth_pth _ _ _ (by omega), ← this]
      rfl
    · rw [jle_f hb b1 (by omega), if_neg (by omega)]
      exact ⟨_, rfl⟩
theorem way8 {f0 q0 o0 st0 : nF} {wc tu : Int32} (hF : 36 < F) (h : R8 s M) (hw : WF2 M) (hX : mX M < mN M) (hE : mE M < mN M) (hb : -2147483648 ≤ a ∧ a < 2147483648) : ∃ z, mX8_way F s f0 q0 o0 st0 wc tu (jI a) = some (jI (wayA M a), z) := by
  have hN := dm_le hw.1
  unfold mX8_way wayA
  by_cases h0 : a < 0
  · rw [j_0, jle_f (by omega) hb h0, if_pos h0]
    exact ⟨_, rfl⟩
  · rw [j_0, jle_t (by omega) hb (by omega), if_neg h0]
    obtain ⟨z, z1, z2, z3, z4, z5, z6⟩ := findsWay8 (f0 := f0) (q0 := q0) (o0 := o0) (st0 := st0) (wc := wc) (tu := tu) hF h hw hX hE
    rw [gl4, cl4, h.2.2.2.2.1, z1, bnd_s]
    simp only [jn_e, z2, ← j_0, ifb, z5]
    have b1 := dst_b hw hX hE
    have b2 := dst_lt hw hX hE
    have hdl : ((wy (mC M) (mO M) (mX M) (mE M)).length : Int) = dst (mC M) (mO M) (mX M) (mE M) + 1 := by unfold dst; omega
    by_cases h1 : 0 ≤ dst (mC M) (mO M) (mX M) (mE M)
    · rw [if_pos (decide_eq_true h1)]
      by_cases h2 : a < ((wy (mC M) (mO M) (mX M) (mE M)).length : Int)
      · rw [jle_f (by omega) hb h2, if_pos h2]
        have ha : a = ((a.toNat : Nat) : Int) := by omega
        rw [ha, gdi (by omega) (by omega), jcl _ (by omega), z4 _ (by omega), ← ha]
        exact ⟨_, rfl⟩
      · rw [jle_t (by omega) hb (by omega), if_neg h2]
        exact ⟨_, rfl⟩
    · rw [if_neg (by rw [decide_eq_false h1]; exact Bool.noConfusion), if_neg (by omega)]
      exact ⟨_, rfl⟩
/-- the turns of the way -/
theorem wayTurns3 (hF : 36 < F) (h : R3 v M) (hw : WF2 M) (hX : mX M < mN M) (hE : mE M < mN M) (hq : WQ M (mX M) w) (hcn : conn (mC M) (mO M) (mX M) (mE M)) : mX7_wayTurns F v w = some (jI (turnsOf (wy (mC M) (mO M) (mX M) (mE M)) : Nat)) := by
  have hN := dm_le hw.1
  unfold mX7_wayTurns
  rw [entry3 h, bnd_s, wq_len hw hX hE hq, bnd_s]
  obtain ⟨V, len, prev, hrt, hpv⟩ := wq_prev hw hq
  have hV := (rt_conn hrt).mpr hcn
  have hdE := dst_rt hw.1.1 hw.2.2 hrt hV
  have hwy := wy_rt hw.1.1 hw.2.2 hrt hV
  have b2 := dst_lt hw hX hE
  rw [hdE]
  have := lpr_fn (L := mX7_wayTurns_L25 w (jI (len (mE M) : Nat))) (e := some (jI (turnsOf (wy (mC M) (mO M) (mX M) (mE M)) : Nat))) (F := F) (fun i => (jI (itr prev i (mE M) : Nat), jI (tcn (fun k => (itr prev (k + 1) (mE M) : Int) - (itr prev k (mE M) : Int)) i : Nat), (if i = 0 then (0 : Int32) else jI ((itr prev (i - 1 + 1) (mE M) : Int) - (itr prev (i - 1) (mE M) : Int))), jI (i : Nat))) (len (mE M)) (by
    intro i hi self
    obtain ⟨hVi, hli⟩ := itr_rt hrt hV i (by omega)
    have hiN := conn_N hw ((rt_conn hrt).mp hVi) hX
    obtain ⟨hVj, hlj⟩ := itr_rt hrt hV (i + 1) (by omega)
    have hjN := conn_N hw ((rt_conn hrt).mp hVj) hX
    simp only [mX7_wayTurns_L25]
    rw [nle_f hi (by omega), at_i (by omega) (by omega), bnd_s, hpv _ hVi (by intro e; rw [e, hrt.2.1] at hli; omega), ← itr_S (prev := prev)]
    simp only [jn_e, jS, jI_sub]
    rw [if_neg (show ¬ i + 1 = 0 by omega), show i + 1 - 1 = i by omega]
    show _ = self (jI (itr prev (i + 1) (mE M) : Nat), jI (tcn (fun k => (itr prev (k + 1) (mE M) : Int) - (itr prev k (mE M) : Int)) i + (if 0 < i ∧ ((itr prev (i + 1) (mE M) : Int) - (itr prev i (mE M) : Int)) ≠ ((itr prev (i - 1 + 1) (mE M) : Int) - (itr prev (i - 1) (mE M) : Int)) then 1 else 0) : Nat), _, _)
    by_cases e : i = 0
    · subst e
      rw [if_pos (by rw [nle0 (by omega)]), if_neg (by omega)]
      rfl
    · rw [if_neg (by rw [nle0 (by omega)]; exact e), if_neg e]
      obtain ⟨hVk, hlk⟩ := itr_rt hrt hV (i - 1 + 1) (by omega)
      have hkN := conn_N hw ((rt_conn hrt).mp hVk) hX
      obtain ⟨hVm, hlm⟩ := itr_rt hrt hV (i - 1) (by omega)
      have hmN := conn_N hw ((rt_conn hrt).mp hVm) hX
      by_cases q : ((itr prev (i + 1) (mE M) : Int) - (itr prev i (mE M) : Int)) = ((itr prev (i - 1 + 1) (mE M) : Int) - (itr prev (i - 1) (mE M) : Int))
      · rw [jeq_t q, if_neg (fun z => z.2 q)]
        rfl
      · rw [jeq_f (by omega) (by omega) q, if_pos ⟨by omega, q⟩]) (by
    intro self
    simp only [mX7_wayTurns_L25]
    rw [nle_t (Nat.le_refl _) (by omega), hwy]
    unfold turnsOf
    rw [pth_len]
    congr 3
    refine tcn_congr (fun k hk => ?_)
    rw [nth_pth _ _ _ (by omega), nth_pth _ _ _ (by omega)]) (by omega)
  rw [← this]
  rfl
end WF8
end
section
/-! PARTS AND DISTANCES: on the way, the cells of a part, its lowest cell, between, the farthest cells -/
def lowF (f : Nat → Bool) : Nat → Nat
  | 0 => 0
  | n + 1 => if lowF f n < n then lowF f n else if f n = true then n else n + 1
theorem lowF_spec {f : Nat → Bool} : ∀ n, (lowF f n < n → f (lowF f n) = true) ∧ lowF f n ≤ n ∧ ∀ c, c < lowF f n → f c = false := by
  intro n
  induction n with
  | zero => exact ⟨fun h => absurd h (Nat.lt_irrefl 0), Nat.le_refl 0, fun c hc => absurd hc (Nat.not_lt_zero c)⟩
  | succ n ih =>
    obtain ⟨h1, h2, h3⟩ := ih
    by_cases e : lowF f n < n
    · have : lowF f (n + 1) = lowF f n := by simp only [lowF, if_pos e]
      rw [this]
      exact ⟨fun _ => h1 e, by omega, h3⟩
    · have en : lowF f n = n := by omega
      rw [en] at h3
      by_cases q : f n = true
      · have : lowF f (n + 1) = n := by simp only [lowF, if_neg e, if_pos q]
        rw [this]
        exact ⟨fun _ => q, by omega, h3⟩
      · have : lowF f (n + 1) = n + 1 := by simp only [lowF, if_neg e, if_neg q]
        rw [this]
        refine ⟨fun z => by omega, by omega, fun c hc => ?_⟩
        by_cases z : c = n
        · subst z; simpa using q
        · exact h3 c (by omega)
theorem lowF_eq {f : Nat → Bool} {n l : Nat} (h1 : l < n) (h2 : f l = true) (h3 : ∀ c, c < n → f c = true → l ≤ c) : lowF f n = l := by
  obtain ⟨g1, g2, g3⟩ := lowF_spec (f := f) n
  by_cases e : lowF f n < n
  · have a := h3 _ e (g1 e)
    by_cases q : l < lowF f n
    · rw [g3 l q] at h2; cases h2
    · omega
  · have := g3 l (by omega)
    rw [this] at h2; cases h2
theorem ind_sum {N : Nat} {ord : Nat → Nat} : ∀ (n : Nat) (f : Nat → Nat), (∀ k, k < n → ord k < N) → (∀ j k, j < n → k < n → ord j = ord k → j = k) → (∀ c, c < N → (Vs n ord c → f c = 1) ∧ (¬ Vs n ord c → f c = 0)) → sN f N = n := by
  intro n
  induction n with
  | zero =>
    intro f _ _ h
    rw [sN_congr (g := fun _ => 0) (fun c hc => (h c hc).2 (fun ⟨k, hk, _⟩ => by omega))]
    have : ∀ m, sN (fun _ => 0) m = 0 := by
      intro m
      induction m with
      | zero => rfl
      | succ m ih => simp only [sN, ih]
    exact this N
  | succ n ih =>
    intro f h1 h2 h3
    have hn := h1 n (by omega)
    have e := ih (fun c => if c = ord n then 0 else f c) (fun k hk => h1 k (by omega)) (fun j k hj hk => h2 j k (by omega) (by omega)) (fun c hc => by
      show (Vs n ord c → (if c = ord n then 0 else f c) = 1) ∧ (¬ Vs n ord c → (if c = ord n then 0 else f c) = 0)
      by_cases q : c = ord n
      · rw [if_pos q]
        refine ⟨fun ⟨k, hk, hkc⟩ => ?_, fun _ => rfl⟩
        have := h2 k n (by omega) (by omega) (by rw [hkc, q])
        omega
      · rw [if_neg q]
        refine ⟨fun ⟨k, hk, hkc⟩ => (h3 c hc).1 ⟨k, by omega, hkc⟩, fun z => (h3 c hc).2 (fun ⟨k, hk, hkc⟩ => ?_)⟩
        by_cases y : k = n
        · subst y; exact q hkc.symm
        · exact z ⟨k, by omega, hkc⟩)
    have e2 : sN f N = sN (fun c => (if c = ord n then 0 else f c) + (if c = ord n then 1 else 0)) N := sN_congr (fun c hc => by
      by_cases q : c = ord n
      · rw [if_pos q, if_pos q, (h3 c hc).1 ⟨n, by omega, q.symm⟩]
      · rw [if_neg q, if_neg q]; rfl)
    rw [e2, sN_add, e, sN_one, if_pos hn]
section PD
variable {v : MZ} {w w1 w2 : WY} {s : nF} {M : Mz} {c d F n i r x : Nat} {a b : Int}
noncomputable def joined (M : Mz) (r : Nat) : Nat → Bool := fun c => decide (0 ≤ dst (mC M) (mO M) r c)
theorem lowest3 (hF : 36 < F) (hw : WF2 M) (hr : r < mN M) (hq : WQ M r w) : mX6_lowestCell F w = some (jI (lowF (joined M r) (mN M) : Nat)) := by
  have hN := dm_le hw.1
  obtain ⟨n, ord, prev, len, hS, h1, h2, -⟩ := hq
  have hn := ss_n hS
  have hrt := ss_rt hS
  unfold mX6_lowestCell
  rw [jl_0, at_i (by omega) (by omega), bnd_s, h2 0 hS.1]
  have key := lpr_r (Q := fun z : Int32 => z = jI (lowF (joined M r) (mN M) : Nat)) (L := mX6_lowestCell_L11 w) (F := F) (fun i y => y.2 = jI ((i + 1 : Nat) : Int) ∧ i < n ∧ ∃ l, y.1 = jI (l : Nat) ∧ Vs n ord l ∧ ∀ k, k < i + 1 → l ≤ ord k) 36 (x := (jI (ord 0 : Nat), (1 : Int32))) (by
    intro i y hi ⟨hy2, hin, l, hl1, hl2, hl3⟩
    by_cases e : n = i + 1
    · left
      refine ⟨jI (l : Nat), ?_, fun self => ?_⟩
      · have hln : l < mN M := by
          obtain ⟨k, hk, rfl⟩ := hl2
          exact hS.2.2.2.2.1 k hk
        rw [lowF_eq (f := joined M r) hln (decide_eq_true (dst_c.mpr ((rt_conn hrt).mp hl2))) (fun c hc hj => by
          obtain ⟨k, hk, rfl⟩ := (rt_conn hrt).mpr (dst_c.mp (of_decide_eq_true hj))
          exact hl3 k (by omega))]
      · simp only [mX6_lowestCell_L11, hy2, h1, hl1]
        rw [nle_t (by omega) (by omega)]
    · right
      have hk1 : i + 1 < n := by omega
      have ho := hS.2.2.2.2.1 (i + 1) hk1
      have hln : l < mN M := by
        obtain ⟨k, hk, rfl⟩ := hl2
        exact hS.2.2.2.2.1 k hk
      refine ⟨by omega, (jI ((if ord (i + 1) < l then ord (i + 1) else l : Nat) : Int), jI ((i + 1 + 1 : Nat) : Int)), ⟨rfl, hk1, (if ord (i + 1) < l then ord (i + 1) else l), rfl, ?_, fun k hk => ?_⟩, fun self => ?_⟩
      · by_cases q : ord (i + 1) < l
        · rw [if_pos q]; exact ⟨i + 1, hk1, rfl⟩
        · rw [if_neg q]; exact hl2
      · by_cases z : k = i + 1
        · subst z; split <;> omega
        · have := hl3 k (by omega); split <;> omega
      · simp only [mX6_lowestCell_L11, hy2, h1, hl1]
        rw [nle_f hk1 (by omega), at_i (by omega) (by omega), bnd_s, h2 (i + 1) hk1, jS]
        by_cases q : ord (i + 1) < l
        · rw [nlt_t q (by omega), if_pos q]
        · rw [nlt_f (by omega) (by omega), if_neg q]) ⟨jl_1, hS.1, ord 0, rfl, ⟨0, hS.1, rfl⟩, fun k hk => by
      obtain rfl : k = 0 := by omega
      exact Nat.le_refl _⟩ hF
  obtain ⟨z, z1, z2⟩ := key
  rw [z2, z1]
noncomputable def partN (M : Mz) (r : Nat) : Nat := sN (fun c => b01 (joined M r c)) (mN M)
theorem cells_part (hw : WF2 M) (hq : WQ M r w) : w.1 = jI (partN M r : Nat) := by
  obtain ⟨n, ord, prev, len, hS, h1, -⟩ := hq
  have hrt := ss_rt hS
  rw [h1]
  unfold partN
  rw [ind_sum n _ hS.2.2.2.2.1 hS.2.2.2.2.2.1 (fun c hc => ⟨fun q => ?_, fun q => ?_⟩)]
  · show b01 (decide (0 ≤ dst (mC M) (mO M) r c)) = 1
    rw [decide_eq_true (dst_c.mpr ((rt_conn hrt).mp q))]; rfl
  · show b01 (decide (0 ≤ dst (mC M) (mO M) r c)) = 0
    rw [decide_eq_false (fun z => q ((rt_conn hrt).mpr (dst_c.mp z)))]; rfl
theorem partOf8 {f0 q0 : nF} {lb : Bool} (hF : 36 < F) (h : R8 s M) (hw : WF2 M) (hr : r < mN M) : ∃ z, mX8_partOf F s f0 q0 (jI (r : Nat)) (bI lb) = some (jI (if lb = true then lowF (joined M r) (mN M) else partN M r : Nat), z) := by
  have hN := dm_le hw.1
  obtain ⟨fq, m1, m2⟩ := measures8 (f0 := f0) (q0 := q0) hF h hw hr
  unfold mX8_partOf
  rw [m1, bnd_s]
  simp only [jn_e]
  have hjr : joined M r r = true := decide_eq_true (dst_c.mpr conn_rf)
  have hlow : lowF (joined M r) (mN M) < mN M := by
    obtain ⟨g1, g2, g3⟩ := lowF_spec (f := joined M r) (mN M)
    apply Classical.byContradiction
    intro q
    have := g3 r (by omega)
    rw [hjr] at this; cases this
  have := lpr_fn (L := mX8_partOf_L13 s fq (mX8_partOf_K69 (bI lb) fq)) (e := mX8_partOf_K69 (bI lb) fq (jI (lowF (joined M r) (mN M) : Nat), jI (partN M r : Nat))) (F := F) (fun i => ((if lowF (joined M r) i < i then jI (lowF (joined M r) i : Nat) else (-1 : Int32)), jI (sN (fun c => b01 (joined M r c)) i : Nat), jI (i : Nat))) (mN M) (by
    intro i hi self
    have hb := dst_b hw hr hi
    simp only [mX8_partOf_L13, cells8 h, bnd_s, jn_e]
    rw [nle_f hi (by omega)]
    simp only [gdi (show i < 36 by omega) (show 36 < 100000 by omega), jcl i (by omega), m2 i hi]
    have hg := (lowF_spec (f := joined M r) i).2.1
    have hb0 : sN (fun c => b01 (joined M r c)) (i + 1) = sN (fun c => b01 (joined M r c)) i + b01 (joined M r i) := rfl
    have hlS : lowF (joined M r) (i + 1) = if lowF (joined M r) i < i then lowF (joined M r) i else if joined M r i = true then i else i + 1 := rfl
    rw [← jS i, hb0, hlS]
    by_cases q : 0 ≤ dst (mC M) (mO M) r i
    · have hji : joined M r i = true := decide_eq_true q
      rw [j_0, jlt_f hb (by omega) q, jlt_f hb (by omega) q, hji, ← jnA]
      by_cases e : lowF (joined M r) i < i
      · rw [if_pos e, if_pos e, jle_t (by omega) (by omega) (by omega), if_pos (show lowF (joined M r) i < i + 1 by omega)]
        rfl
      · rw [if_neg e, if_neg e, if_pos (show true = true from rfl), if_neg (show ¬ (jI 0 ≤ (-1 : Int32)) by decide), if_pos (show i < i + 1 by omega), jlt_f hb (by omega) q]
        rfl
    · have hji : joined M r i = false := decide_eq_false q
      rw [j_0, jlt_t hb (by omega) (by omega), jlt_t hb (by omega) (by omega), hji, ← jnA]
      by_cases e : lowF (joined M r) i < i
      · rw [if_pos e, if_pos e, jle_t (by omega) (by omega) (by omega), if_pos (show lowF (joined M r) i < i + 1 by omega)]
        rfl
      · rw [if_neg e, if_neg e, if_neg (show ¬ (jI 0 ≤ (-1 : Int32)) by decide), if_neg (show ¬ (false = true) from Bool.noConfusion), if_neg (show ¬ i + 1 < i + 1 by omega)]
        rfl) (by
    intro self
    simp only [mX8_partOf_L13, cells8 h, bnd_s]
    rw [nle_t (Nat.le_refl _) (by omega), if_pos hlow]
    rfl) (by omega)
  refine ⟨(fq.1, fq.2), ?_⟩
  have e0 : (if lowF (joined M r) 0 < 0 then jI (lowF (joined M r) 0 : Nat) else (-1 : Int32)) = -1 := if_neg (by omega)
  rw [e0] at this
  have this2 : lpr (mX8_partOf_L13 s fq (mX8_partOf_K69 (bI lb) fq)) F ((-1 : Int32), (0 : Int32), (0 : Int32)) = _ := this
  rw [this2]
  simp only [mX8_partOf_K69, jn_e, ifb]
  cases lb
  · rw [if_neg Bool.noConfusion, if_neg Bool.noConfusion]
  · rw [if_pos rfl, if_pos rfl]
theorem isOnWay3 (hF : 36 < F) (h : R3 v M) (hw : WF2 M) (hX : mX M < mN M) (hE : mE M < mN M) (hc : c < mN M) : ∃ z, mX7_isOnWay F v w1 w2 (jI (c : Nat)) = some (bI (decide (c ∈ wy (mC M) (mO M) (mX M) (mE M))), z) := by
  have hN := dm_le hw.1
  obtain ⟨w', q1, q2⟩ := hasWay3 (w := w2) hF h hw hX hE
  unfold mX7_isOnWay
  rw [q1, bnd_s]
  simp only [jn_e, ifb]
  by_cases hd0 : 0 ≤ dst (mC M) (mO M) (mX M) (mE M)
  · rw [if_pos (decide_eq_true hd0), wq_reach hw hX hc q2, bnd_s, ifb]
    have hcn := dst_c.mp hd0
    by_cases hd1 : 0 ≤ dst (mC M) (mO M) (mX M) c
    · rw [if_pos (decide_eq_true hd1)]
      have hcc := dst_c.mp hd1
      obtain ⟨w'', q3, q4⟩ := findFrom3 (w := w1) hF h hw hE
      rw [entry3 h, bnd_s, q3, bnd_s, wq_len hw hE hc q4, bnd_s, wq_len hw hX hc q2, bnd_s, bnd_s, wq_len hw hX hE q2, bnd_s, jI_add]
      obtain ⟨V, len, prev, hrt⟩ := rt_ex hw hE
      obtain ⟨V2, len2, prev2, hrt2⟩ := rt_ex hw hX
      have hVE := (rt_conn hrt2).mpr hcn
      have hVc := (rt_conn hrt2).mpr hcc
      have hVc1 := (rt_conn hrt).mpr (conn_tr (conn_sy hcn) hcc)
      have ho := on_way hw.1.1 hw.2.2 hrt hrt2 hVE hVc
      rw [← wy_rt hw.1.1 hw.2.2 hrt2 hVE] at ho
      have e1 := dst_rt hw.1.1 hw.2.2 hrt2 hVE
      have e2 := dst_rt hw.1.1 hw.2.2 hrt2 hVc
      have e3 := dst_rt hw.1.1 hw.2.2 hrt hVc1
      have l1 := dst_lt hw hX hE
      have l2 := dst_lt hw hX hc
      have l3 := dst_lt hw hE hc
      by_cases e : dst (mC M) (mO M) (mE M) c + dst (mC M) (mO M) (mX M) c = dst (mC M) (mO M) (mX M) (mE M)
      · rw [jeq_t e, gz1, bI_p (ho.mpr ⟨hVc1, by omega⟩)]
        exact ⟨_, rfl⟩
      · rw [jeq_f (by omega) (by omega) e, gz0, bI_n (fun z => e (by have := (ho.mp z).2; omega))]
        exact ⟨_, rfl⟩
    · rw [if_neg (by rw [decide_eq_false hd1]; exact Bool.noConfusion), gz0, bI_n]
      · exact ⟨_, rfl⟩
      · intro hm
        apply hd1
        obtain ⟨h1, h2, h3, h4⟩ := wy_spec hcn
        exact dst_c.mpr (conn_tr hcn (wk_conn h1 h3 hm))
  · rw [if_neg (by rw [decide_eq_false hd0]; exact Bool.noConfusion), gz0, wy_no (fun z => hd0 (dst_c.mpr z)), bI_n (by simp)]
    exact ⟨_, rfl⟩
theorem onWay8 {f0 q0 o0 st0 : nF} {wc tu : Int32} (hF : 36 < F) (h : R8 s M) (hw : WF2 M) (hX : mX M < mN M) (hE : mE M < mN M) (hc : c < mN M) : ∃ z, mX8_onWay F s f0 q0 o0 st0 wc tu (jI (c : Nat)) = some (bI (decide (c ∈ wy (mC M) (mO M) (mX M) (mE M))), z) := by
  have hN := dm_le hw.1
  obtain ⟨z, z1, z2, z3, -⟩ := findsWay8 (f0 := f0) (q0 := q0) (o0 := o0) (st0 := st0) (wc := wc) (tu := tu) hF h hw hX hE
  unfold mX8_onWay
  rw [gl4, cl4, h.2.2.2.2.1, z1, bnd_s, gdi (by omega) (by omega)]
  simp only [jn_e, jcl c (by omega), z3 c hc]
  by_cases q : c ∈ wy (mC M) (mO M) (mX M) (mE M)
  · rw [decide_eq_true q, if_neg (by decide)]
    exact ⟨_, rfl⟩
  · rw [decide_eq_false q, if_pos (by decide)]
    exact ⟨_, rfl⟩
/-- what between answers -/
noncomputable def betwA (M : Mz) (a b : Int) : Int := if 0 ≤ a ∧ a < (mN M : Int) ∧ 0 ≤ b ∧ b < (mN M : Int) then (if dst (mC M) (mO M) a.toNat b.toNat < 0 then -4 else dst (mC M) (mO M) a.toNat b.toNat) else -1
theorem between3 (hF : 36 < F) (h : R3 v M) (hw : WF2 M) (ha : -2147483648 ≤ a ∧ a < 2147483648) (hb : -2147483648 ≤ b ∧ b < 2147483648) : ∃ z, mX7_between F v w (jI a) (jI b) = some (jI (betwA M a b), z) := by
  have hN := dm_le hw.1
  unfold mX7_between betwA
  rw [hasCell3 h hw.1 ha, bnd_s]
  simp only [jn_e, ifb]
  by_cases h1 : 0 ≤ a ∧ a < (mN M : Int)
  · rw [if_pos (decide_eq_true h1), hasCell3 h hw.1 hb, bnd_s, ifb]
    by_cases h2 : 0 ≤ b ∧ b < (mN M : Int)
    · rw [if_pos (decide_eq_true h2), if_pos (by omega)]
      obtain ⟨p, rfl⟩ := Int.eq_ofNat_of_zero_le h1.1
      obtain ⟨q, rfl⟩ := Int.eq_ofNat_of_zero_le h2.1
      have hp : p < mN M := by omega
      have hq : q < mN M := by omega
      simp only [Int.toNat_natCast]
      obtain ⟨w', q1, q2⟩ := findFrom3 (w := w) hF h hw hp
      rw [q1, bnd_s, wq_reach hw hp hq q2, bnd_s, ifb]
      by_cases e : 0 ≤ dst (mC M) (mO M) p q
      · rw [if_pos (decide_eq_true e), wq_len hw hp hq q2, bnd_s, if_neg (by omega)]
        exact ⟨_, rfl⟩
      · rw [if_neg (by rw [decide_eq_false e]; exact Bool.noConfusion), if_pos (by omega)]
        exact ⟨_, rfl⟩
    · rw [if_neg (by rw [decide_eq_false h2]; exact Bool.noConfusion), if_neg (by omega)]
      exact ⟨_, rfl⟩
  · rw [if_neg (by rw [decide_eq_false h1]; exact Bool.noConfusion), if_neg (by omega)]
    exact ⟨_, rfl⟩
theorem orNone8 (ha : -2147483648 ≤ a ∧ a < 2147483648) : mX8_orNone (jI a) = some (jI (if a < 0 then -4 else a)) := by
  unfold mX8_orNone
  simp only [jn_e]
  by_cases h : a < 0
  · rw [j_0, jle_f (by omega) ha h, if_pos h]; rfl
  · rw [j_0, jle_t (by omega) ha (by omega), if_neg h]
theorem between8 {f0 q0 : nF} (hF : 36 < F) (h : R8 s M) (hw : WF2 M) (ha : -2147483648 ≤ a ∧ a < 2147483648) (hb : -2147483648 ≤ b ∧ b < 2147483648) : ∃ z, mX8_between F s f0 q0 (jI a) (jI b) = some (jI (betwA M a b), z) := by
  have hN := dm_le hw.1
  unfold mX8_between betwA
  rw [isCell8 h hw.1 ha, bnd_s]
  simp only [jn_e, ifb]
  by_cases h1 : 0 ≤ a ∧ a < (mN M : Int)
  · rw [if_pos (decide_eq_true h1), isCell8 h hw.1 hb, bnd_s, ifb]
    by_cases h2 : 0 ≤ b ∧ b < (mN M : Int)
    · rw [if_pos (decide_eq_true h2), if_pos (by omega)]
      obtain ⟨p, rfl⟩ := Int.eq_ofNat_of_zero_le h1.1
      obtain ⟨q, rfl⟩ := Int.eq_ofNat_of_zero_le h2.1
      have hp : p < mN M := by omega
      have hq : q < mN M := by omega
      simp only [Int.toNat_natCast]
      obtain ⟨fq, q1, q2⟩ := measures8 (f0 := f0) (q0 := q0) hF h hw hp
      rw [q1, bnd_s, gdi (by omega) (by omega), jcl q (by omega), q2 q hq, orNone8 (dst_b hw hp hq), bnd_s]
      exact ⟨_, rfl⟩
    · rw [if_neg (by rw [decide_eq_false h2]; exact Bool.noConfusion), if_neg (by omega)]
      exact ⟨_, rfl⟩
  · rw [if_neg (by rw [decide_eq_false h1]; exact Bool.noConfusion), if_neg (by omega)]
    exact ⟨_, rfl⟩
end PD
end
section
/-! FARTHEST CELLS AND THE BEST EXIT -/
def finn (f : Nat → Int) (c : Nat) : Nat → (Int × Int × Int) → (Int × Int × Int)
  | 0, t => t
  | j + 1, t => if f (c + 1 + j) ≤ (finn f c j t).2.2 then finn f c j t else ((c : Int), ((c + 1 + j : Nat) : Int), f (c + 1 + j))
def fout (N : Nat) (d : Nat → Nat → Int) : Nat → (Int × Int × Int)
  | 0 => (-1, -1, 0)
  | i + 1 => finn (d i) i (N - (i + 1)) (fout N d i)
theorem finn_b {f : Nat → Int} {c : Nat} {b : Int} {t : Int × Int × Int} (ht : 0 ≤ t.2.2 ∧ t.2.2 ≤ b) : ∀ j, (∀ k, k < c + 1 + j → f k ≤ b) → 0 ≤ (finn f c j t).2.2 ∧ (finn f c j t).2.2 ≤ b := by
  intro j
  induction j with
  | zero => intro _; exact ht
  | succ j ih =>
    intro h
    have h1 := ih (fun k hk => h k (by omega))
    have h2 := h (c + 1 + j) (by omega)
    simp only [finn]
    split
    · exact h1
    · show 0 ≤ f (c + 1 + j) ∧ f (c + 1 + j) ≤ b
      omega
theorem fout_b {N : Nat} {d : Nat → Nat → Int} {b : Int} (hb : 0 ≤ b) (h : ∀ i k, i < N → k < N → d i k ≤ b) : ∀ i, i ≤ N → 0 ≤ (fout N d i).2.2 ∧ (fout N d i).2.2 ≤ b := by
  intro i
  induction i with
  | zero => intro _; exact ⟨Int.le_refl 0, hb⟩
  | succ i ih =>
    intro hi
    exact finn_b (ih (by omega)) _ (fun k hk => h i k (by omega) (by omega))
section FB
variable {v : MZ} {w : WY} {s : nF} {M : Mz} {c d F n i r x : Nat} {a b : Int}
theorem choose3 {p q z : Int32} (ha : -2147483648 ≤ a ∧ a < 2147483648) : mX7_choose (jI a) p q z = some (if a = 0 then p else if a = 1 then q else z) := by
  unfold mX7_choose
  simp only [jn_e]
  by_cases h : a = 0
  · rw [j_0, jeq_t h, if_pos h]
  · rw [j_0, jeq_f ha (by omega) h, if_neg h]
    by_cases h1 : a = 1
    · rw [j_1, jeq_t h1, if_pos h1]
    · rw [j_1, jeq_f ha (by omega) h1, if_neg h1]
noncomputable def dM (M : Mz) : Nat → Nat → Int := fun i k => dst (mC M) (mO M) i k
noncomputable def farT (M : Mz) : Int × Int × Int := fout (mN M) (dM M) (mN M)
noncomputable def farA (M : Mz) (a : Int) : Int := if 0 ≤ a ∧ a ≤ 2 then (if (farT M).2.2 = 0 then -4 else if a = 0 then (farT M).1 else if a = 1 then (farT M).2.1 else (farT M).2.2) else -1
theorem dM_b (hw : WF2 M) : ∀ i k, i < mN M → k < mN M → dM M i k ≤ 36 := by
  intro i k hi hk
  have hN := dm_le hw.1
  have := dst_lt hw hi hk
  show dst (mC M) (mO M) i k ≤ 36
  omega
theorem far_in3 (hF : 36 < F) (h : R3 v M) (hw : WF2 M) (hi : i < mN M) (hq : WQ M i w) {t : Int × Int × Int} (ht : 0 ≤ t.2.2 ∧ t.2.2 ≤ 36) {x8 : Int32 × Int32 × Int32 × Int32 × WY} (hx : x8.2.2.2.1 = jI (i : Nat)) (j13 : (Int32 × Int32 × Int32) → Option (Int32 × WY)) :
    lpr (mX7_farthest_L52 v x8 w j13) F (jI t.1, jI t.2.1, jI t.2.2, jI (i : Nat) + (1 : Int32)) = j13 (jI (finn (dM M i) i (mN M - (i + 1)) t).1, jI (finn (dM M i) i (mN M - (i + 1)) t).2.1, jI (finn (dM M i) i (mN M - (i + 1)) t).2.2) := by
  have hN := dm_le hw.1
  have := lpr_fn (L := mX7_farthest_L52 v x8 w j13) (e := j13 (jI (finn (dM M i) i (mN M - (i + 1)) t).1, jI (finn (dM M i) i (mN M - (i + 1)) t).2.1, jI (finn (dM M i) i (mN M - (i + 1)) t).2.2)) (F := F) (fun j => (jI (finn (dM M i) i j t).1, jI (finn (dM M i) i j t).2.1, jI (finn (dM M i) i j t).2.2, jI ((i + 1 + j : Nat) : Int))) (mN M - (i + 1)) (by
    intro j hj self
    have hk : i + 1 + j < mN M := by omega
    have hb1 := finn_b (f := dM M i) (c := i) ht j (fun k hk => dM_b hw i k hi (by omega))
    have hb2 := dst_b hw hi hk
    have hdl := dst_lt hw hi hk
    simp only [mX7_farthest_L52, cells3 h, bnd_s]
    rw [nle_f hk (by omega), wq_len hw hi hk hq, bnd_s]
    simp only [jn_e, bnd_s, jS]
    by_cases e : dst (mC M) (mO M) i (i + 1 + j) ≤ (finn (dM M i) i j t).2.2
    · rw [jle_t hb2 (by omega) e]
      have e2 : finn (dM M i) i (j + 1) t = finn (dM M i) i j t := by
        simp only [finn]
        exact if_pos e
      rw [e2]; rfl
    · rw [jle_f hb2 (by omega) (by omega)]
      have e2 : finn (dM M i) i (j + 1) t = ((i : Int), ((i + 1 + j : Nat) : Int), dst (mC M) (mO M) i (i + 1 + j)) := by
        simp only [finn]
        exact if_neg e
      rw [e2, hx]; rfl) (by
    intro self
    simp only [mX7_farthest_L52, cells3 h, bnd_s]
    rw [nle_t (by omega) (by omega)]) (by omega)
  rw [← this, jS]; rfl
theorem farthest3 (hF : 36 < F) (h : R3 v M) (hw : WF2 M) (ha : -2147483648 ≤ a ∧ a < 2147483648) : ∃ z, mX7_farthest F v w (jI a) = some (jI (farA M a), z) := by
  have hN := dm_le hw.1
  unfold mX7_farthest farA
  simp only [jn_e]
  by_cases h0 : a < 0
  · rw [j_0, jlt_t ha (by omega) h0, if_neg (by omega)]; exact ⟨_, rfl⟩
  · rw [j_0, jlt_f ha (by omega) (by omega), j_2]
    by_cases h2 : a ≤ 2
    · rw [jle_t ha (by omega) h2, if_pos (by omega)]
      have key := lpr_r (Q := fun z : Int32 × WY => ∃ y, mX7_farthest_K107 (jI a) (jI (farT M).1, jI (farT M).2.1, jI (farT M).2.2, y) = some z) (L := mX7_farthest_L21 F v (mX7_farthest_K107 (jI a))) (F := F) (fun i y => y.1 = jI (fout (mN M) (dM M) i).1 ∧ y.2.1 = jI (fout (mN M) (dM M) i).2.1 ∧ y.2.2.1 = jI (fout (mN M) (dM M) i).2.2 ∧ y.2.2.2.1 = jI (i : Nat)) (mN M) (x := ((-1 : Int32), (-1 : Int32), jI 0, jI 0, w)) (by
        intro i y hi ⟨y1, y2, y3, y4⟩
        by_cases e : i = mN M
        · left
          have hb := fout_b (N := mN M) (b := 36) (by omega) (dM_b hw) (mN M) (by omega)
          obtain ⟨z, hz⟩ : ∃ z, mX7_farthest_K107 (jI a) (jI (farT M).1, jI (farT M).2.1, jI (farT M).2.2, y.2.2.2.2) = some z := by
            simp only [mX7_farthest_K107, jn_e]
            split
            · exact ⟨_, rfl⟩
            · rw [choose3 ha, bnd_s]; exact ⟨_, rfl⟩
          refine ⟨z, ⟨_, hz⟩, fun self => ?_⟩
          simp only [mX7_farthest_L21, cells3 h, bnd_s, y4]
          rw [nle_t (by omega) (by omega), y1, y2, y3, e]
          exact hz
        · right
          have hi2 : i < mN M := by omega
          have hb := fout_b (N := mN M) (b := 36) (by omega) (dM_b hw) i (by omega)
          obtain ⟨w', q1, q2⟩ := findFrom3 (w := y.2.2.2.2) hF h hw hi2
          refine ⟨hi2, (jI (fout (mN M) (dM M) (i + 1)).1, jI (fout (mN M) (dM M) (i + 1)).2.1, jI (fout (mN M) (dM M) (i + 1)).2.2, jI ((i + 1 : Nat) : Int), w'), ⟨rfl, rfl, rfl, rfl⟩, fun self => ?_⟩
          simp only [mX7_farthest_L21, cells3 h, bnd_s, y4]
          rw [nle_f hi2 (by omega), q1, bnd_s]
          simp only [jn_e]
          rw [y1, y2, y3, far_in3 hF h hw hi2 q2 hb y4]
          simp only [mX7_farthest_K101, y4, jS]
          rfl) ⟨j_m1, j_m1, rfl, rfl⟩ (by omega)
      obtain ⟨z, ⟨y, hy⟩, hz⟩ := key
      rw [hz]
      have hb := fout_b (N := mN M) (b := 36) (by omega) (dM_b hw) (mN M) (by omega)
      have hb' : 0 ≤ (farT M).2.2 ∧ (farT M).2.2 ≤ 36 := hb
      simp only [mX7_farthest_K107, jn_e] at hy
      by_cases e : (farT M).2.2 = 0
      · rw [j_0, jeq_t e] at hy
        rw [if_pos e, ← hy]
        exact ⟨_, rfl⟩
      · rw [j_0, jeq_f (by omega) (by omega) e, choose3 ha, bnd_s] at hy
        rw [if_neg e, ← hy]
        refine ⟨y, ?_⟩
        by_cases q : a = 0
        · rw [if_pos q, if_pos q]
        · rw [if_neg q, if_neg q]
          by_cases q1 : a = 1
          · rw [if_pos q1, if_pos q1]
          · rw [if_neg q1, if_neg q1]
    · rw [jle_f ha (by omega) (by omega), if_neg (by omega)]; exact ⟨_, rfl⟩
theorem far_in8 (hF : 36 < F) (h : R8 s M) (hw : WF2 M) (hi : i < mN M) {fq : nF × nF} (hq : ∀ c, c < mN M → fq.1 c = jI (dst (mC M) (mO M) i c)) {t : Int × Int × Int} (ht : 0 ≤ t.2.2 ∧ t.2.2 ≤ 36) {x6 : Int32 × Int32 × Int32 × Int32 × nF × nF} (hx : x6.2.2.2.1 = jI (i : Nat)) (j11 : (Int32 × Int32 × Int32) → Option (Int32 × nF × nF)) :
    lpr (mX8_farthest_L42 s x6 fq j11) F (jI t.1, jI t.2.1, jI t.2.2, jI (i : Nat) + (1 : Int32)) = j11 (jI (finn (dM M i) i (mN M - (i + 1)) t).1, jI (finn (dM M i) i (mN M - (i + 1)) t).2.1, jI (finn (dM M i) i (mN M - (i + 1)) t).2.2) := by
  have hN := dm_le hw.1
  have := lpr_fn (L := mX8_farthest_L42 s x6 fq j11) (e := j11 (jI (finn (dM M i) i (mN M - (i + 1)) t).1, jI (finn (dM M i) i (mN M - (i + 1)) t).2.1, jI (finn (dM M i) i (mN M - (i + 1)) t).2.2)) (F := F) (fun j => (jI (finn (dM M i) i j t).1, jI (finn (dM M i) i j t).2.1, jI (finn (dM M i) i j t).2.2, jI ((i + 1 + j : Nat) : Int))) (mN M - (i + 1)) (by
    intro j hj self
    have hk : i + 1 + j < mN M := by omega
    have hb1 := finn_b (f := dM M i) (c := i) ht j (fun k hk => dM_b hw i k hi (by omega))
    have hb2 := dst_b hw hi hk
    have hdl := dst_lt hw hi hk
    simp only [mX8_farthest_L42, cells8 h, bnd_s]
    rw [nle_f hk (by omega), gdi (by omega) (by omega)]
    simp only [jn_e, jcl (i + 1 + j) (by omega), hq _ hk, gdi (show i + 1 + j < 36 by omega) (show 36 < 100000 by omega), jS]
    by_cases e : dst (mC M) (mO M) i (i + 1 + j) ≤ (finn (dM M i) i j t).2.2
    · rw [jle_t hb2 (by omega) e]
      have e2 : finn (dM M i) i (j + 1) t = finn (dM M i) i j t := by
        simp only [finn]
        exact if_pos e
      rw [e2]; rfl
    · rw [jle_f hb2 (by omega) (by omega)]
      have e2 : finn (dM M i) i (j + 1) t = ((i : Int), ((i + 1 + j : Nat) : Int), dst (mC M) (mO M) i (i + 1 + j)) := by
        simp only [finn]
        exact if_neg e
      rw [e2, hx]; rfl) (by
    intro self
    simp only [mX8_farthest_L42, cells8 h, bnd_s]
    rw [nle_t (by omega) (by omega)]) (by omega)
  rw [← this, jS]; rfl
theorem far_K8 {y1 y2 : nF} (ha : -2147483648 ≤ a ∧ a < 2147483648) (hw : WF2 M) : mX8_farthest_K90 (jI a) (jI (farT M).1, jI (farT M).2.1, jI (farT M).2.2, y1, y2) = some (jI (if (farT M).2.2 = 0 then -4 else if a = 0 then (farT M).1 else if a = 1 then (farT M).2.1 else (farT M).2.2), y1, y2) := by
  have hN := dm_le hw.1
  have hb' : 0 ≤ (farT M).2.2 ∧ (farT M).2.2 ≤ 36 := fout_b (N := mN M) (b := 36) (by omega) (dM_b hw) (mN M) (by omega)
  simp only [mX8_farthest_K90, jn_e]
  by_cases e : (farT M).2.2 = 0
  · rw [j_0, jeq_t e, if_pos e]; rfl
  · rw [j_0, jeq_f (by omega) (by omega) e, if_neg e]
    by_cases q : a = 0
    · rw [jeq_t q, if_pos q]
    · rw [jeq_f ha (by omega) q, if_neg q]
      by_cases q1 : a = 1
      · rw [j_1, jeq_t q1, if_pos q1]
      · rw [j_1, jeq_f ha (by omega) q1, if_neg q1]
theorem farthest8 {f0 q0 : nF} (hF : 36 < F) (h : R8 s M) (hw : WF2 M) (ha : -2147483648 ≤ a ∧ a < 2147483648) : ∃ z, mX8_farthest F s f0 q0 (jI a) = some (jI (farA M a), z) := by
  have hN := dm_le hw.1
  unfold mX8_farthest farA
  rw [j_0, j_2, in8 ha (by omega) (by omega), bnd_s, ← j_0, ifb]
  simp only [jn_e]
  by_cases h0 : 0 ≤ a ∧ a ≤ 2
  · rw [if_pos (decide_eq_true h0), if_pos h0]
    have key := lpr_r (Q := fun z : Int32 × nF × nF => z.1 = jI (if (farT M).2.2 = 0 then -4 else if a = 0 then (farT M).1 else if a = 1 then (farT M).2.1 else (farT M).2.2)) (L := mX8_farthest_L21 F s (mX8_farthest_K90 (jI a))) (F := F) (fun i y => y.1 = jI (fout (mN M) (dM M) i).1 ∧ y.2.1 = jI (fout (mN M) (dM M) i).2.1 ∧ y.2.2.1 = jI (fout (mN M) (dM M) i).2.2 ∧ y.2.2.2.1 = jI (i : Nat)) (mN M) (x := ((-1 : Int32), (-1 : Int32), (0 : Int32), (0 : Int32), f0, q0)) (by
      intro i y hi ⟨y1, y2, y3, y4⟩
      by_cases e : i = mN M
      · left
        refine ⟨(jI (if (farT M).2.2 = 0 then -4 else if a = 0 then (farT M).1 else if a = 1 then (farT M).2.1 else (farT M).2.2), y.2.2.2.2.1, y.2.2.2.2.2), rfl, fun self => ?_⟩
        · simp only [mX8_farthest_L21, cells8 h, bnd_s, y4]
          rw [nle_t (by omega) (by omega), y1, y2, y3, e]
          exact far_K8 ha hw
      · right
        have hi2 : i < mN M := by omega
        have hb := fout_b (N := mN M) (b := 36) (by omega) (dM_b hw) i (by omega)
        obtain ⟨fq, q1, q2⟩ := measures8 (f0 := y.2.2.2.2.1) (q0 := y.2.2.2.2.2) hF h hw hi2
        refine ⟨hi2, (jI (fout (mN M) (dM M) (i + 1)).1, jI (fout (mN M) (dM M) (i + 1)).2.1, jI (fout (mN M) (dM M) (i + 1)).2.2, jI ((i + 1 : Nat) : Int), fq.1, fq.2), ⟨rfl, rfl, rfl, rfl⟩, fun self => ?_⟩
        simp only [mX8_farthest_L21, cells8 h, bnd_s, y4]
        rw [nle_f hi2 (by omega), q1, bnd_s]
        simp only [jn_e]
        rw [y1, y2, y3, far_in8 hF h hw hi2 q2 hb y4]
        simp only [mX8_farthest_K84, y4, jS]
        rfl) ⟨j_m1, j_m1, j_0, j_0⟩ (by omega)
    obtain ⟨z, z1, z2⟩ := key
    rw [z2, ← z1]
    exact ⟨_, rfl⟩
  · rw [if_neg (by rw [decide_eq_false h0]; exact Bool.noConfusion), if_neg h0]
    exact ⟨_, rfl⟩
end FB
end
section
/-! THE BEST EXIT -/
def freeF (M : Mz) (c d : Nat) : Bool := (nb (mC M) (mN M) c d).isNone && !(decide (mE M = c ∧ mEs M = d))
/-- the lowest free side among the last i -/
def sd (f : Nat → Bool) : Nat → Nat
  | 0 => 4
  | i + 1 => if f (3 - i) = true then 3 - i else sd f i
def fsd (M : Mz) (c : Nat) : Nat := sd (freeF M c) 4
theorem sd_4 {f : Nat → Bool} : sd f 4 = if f 0 = true then 0 else if f 1 = true then 1 else if f 2 = true then 2 else if f 3 = true then 3 else 4 := rfl
theorem sd_le {f : Nat → Bool} : ∀ i, sd f i ≤ 4 := by
  intro i
  induction i with
  | zero => exact Nat.le_refl 4
  | succ i ih => simp only [sd]; split <;> omega
section BX
variable {v : MZ} {w : WY} {s : nF} {M : Mz} {c d F n i r x : Nat} {a b : Int}
theorem isDoorAt3 {p q : Nat} {o : Nat} (ho : o < 2) (hp : v.2.2.2.2.1 o = jI (p : Nat)) (hq : v.2.2.2.2.2 o = jI (q : Nat)) (h1 : p < 100000) (h2 : q < 100000) (hc : c < 100000) (hd : d < 100000) : mX3_isDoorAt v (jI (o : Nat)) (jI (c : Nat)) (jI (d : Nat)) = some (bI (decide (p = c ∧ q = d))) := by
  unfold mX3_isDoorAt
  rw [at_i ho (by omega), bnd_s, hp]
  simp only [jn_e]
  by_cases e : p = c
  · rw [neq_t e, at_i ho (by omega), bnd_s, hq]
    by_cases e2 : q = d
    · rw [neq_t e2, bI_p ⟨e, e2⟩]; rfl
    · rw [neq_f e2 h2 hd, bI_n (fun z => e2 z.2)]; rfl
  · rw [neq_f e h1 hc, bI_n (fun z => e z.1)]; rfl
theorem freeSide3 (hF : 4 < F) (h : R3 v M) (hw : WF M) (hc : c < mN M) : mX7_freeSide F v (jI (c : Nat)) = some (if fsd M c < 4 then jI (fsd M c : Nat) else (-1 : Int32)) := by
  have hd := hw.1
  have hN := dm_le hd
  have hE : mE M < mN M := hw.2.2.2.2.1.1
  have hEs : mEs M < 4 := hw.2.2.2.2.1.2.1
  unfold mX7_freeSide
  have hst : ∀ i, i < 4 → ∀ self : Int32 → Option Int32, mX7_freeSide_L2 v (jI (c : Nat)) self (jI (i : Nat)) = if freeF M c i = true then some (jI (i : Nat)) else self (jI ((i + 1 : Nat) : Int)) := by
    intro i hi self
    simp only [mX7_freeSide_L2, jl_4]
    rw [nle_f hi (by omega), beside3 h hd hc hi, bnd_s]
    simp only [jn_e, jS]
    unfold freeF
    cases hn : nb (mC M) (mN M) c i with
    | some o =>
      have ho := (num_lt hd hc hi hn).2
      rw [oJ_some, if_neg (by rw [nem1 (by omega)]; exact id), if_neg (by simp)]
    | none =>
      rw [oJ_none, if_pos (by decide), jl_0, isDoorAt3 (o := 0) (by omega) h.2.2.2.2.1 h.2.2.2.2.2.2.1 (by omega) (by omega) (by omega) (by omega), bnd_s, ← jl_0, ifb]
      cases hq : decide (mE M = c ∧ mEs M = i)
      · rw [if_neg Bool.noConfusion, if_pos (by simp)]
      · rw [if_pos rfl, if_neg (by simp)]
  have key := lpr_r (Q := fun z : Int32 => z = if fsd M c < 4 then jI (fsd M c : Nat) else (-1 : Int32)) (L := mX7_freeSide_L2 v (jI (c : Nat))) (F := F) (fun i y => y = jI (i : Nat) ∧ ∀ d, d < i → freeF M c d = false) 4 (x := (0 : Int32)) (by
    intro i y hi ⟨hy, hn⟩
    subst hy
    by_cases e : i = 4
    · left
      subst e
      refine ⟨(-1 : Int32), ?_, fun self => ?_⟩
      · have : fsd M c = 4 := by
          unfold fsd
          rw [sd_4, hn 0 (by omega), hn 1 (by omega), hn 2 (by omega), hn 3 (by omega)]
          rfl
        rw [this]; rfl
      · simp only [mX7_freeSide_L2, jl_4]
        rw [nle_t (Nat.le_refl _) (by omega)]
    · have hi4 : i < 4 := by omega
      by_cases q : freeF M c i = true
      · left
        refine ⟨jI (i : Nat), ?_, fun self => by rw [hst i hi4, if_pos q]⟩
        have : fsd M c = i := by
          unfold fsd
          rw [sd_4]
          have g : i = 0 ∨ i = 1 ∨ i = 2 ∨ i = 3 := by omega
          rcases g with rfl | rfl | rfl | rfl
          · rw [if_pos q]
          · rw [if_neg (by rw [hn 0 (by omega)]; exact Bool.noConfusion), if_pos q]
          · rw [if_neg (by rw [hn 0 (by omega)]; exact Bool.noConfusion), if_neg (by rw [hn 1 (by omega)]; exact Bool.noConfusion), if_pos q]
          · rw [if_neg (by rw [hn 0 (by omega)]; exact Bool.noConfusion), if_neg (by rw [hn 1 (by omega)]; exact Bool.noConfusion), if_neg (by rw [hn 2 (by omega)]; exact Bool.noConfusion), if_pos q]
        rw [this, if_pos hi4]
      · right
        refine ⟨hi4, jI ((i + 1 : Nat) : Int), ⟨rfl, fun d hd => ?_⟩, fun self => by rw [hst i hi4, if_neg q]⟩
        by_cases z : d = i
        · subst z; simpa using q
        · exact hn d (by omega)) ⟨jl_0, fun d hd => by omega⟩ hF
  obtain ⟨z, z1, z2⟩ := key
  rw [z2, z1]
theorem mayBeExit8 (h : R8 s M) (hw : WF M) (hc : c < mN M) (hdd : d < 4) : mX8_mayBeExit s (jI (c : Nat)) (jI (d : Nat)) = some (bI (freeF M c d)) := by
  have hd := hw.1
  have hN := dm_le hd
  have hE : mE M < mN M := hw.2.2.2.2.1.1
  have hEs : mEs M < 4 := hw.2.2.2.2.1.2.1
  unfold mX8_mayBeExit freeF
  rw [besides8 h hd hc hdd, bnd_s]
  simp only [jn_e, gl2, cl2, gl3, cl3, h.2.2.1, h.2.2.2.1]
  cases hn : nb (mC M) (mN M) c d with
  | some o =>
    have ho := (num_lt hd hc hdd hn).2
    rw [oJ_some, if_pos (by rw [n0l (by omega)]; trivial)]; rfl
  | none =>
    rw [oJ_none, if_neg (by decide)]
    by_cases e : mE M = c
    · rw [neq_t e]
      by_cases e2 : mEs M = d
      · rw [neq_t e2, decide_eq_true ⟨e, e2⟩]; rfl
      · rw [neq_f e2 (by omega) (by omega), decide_eq_false (fun z => e2 z.2)]; rfl
    · rw [neq_f e (by omega) (by omega), decide_eq_false (fun z => e z.1)]; rfl
/-- the fold over the cells -/
noncomputable def bxs (M : Mz) : Nat → (Int × Int × Int)
  | 0 => (-1, -1, 1000000)
  | i + 1 => if (0 ≤ dst (mC M) (mO M) (mE M) i ∧ fsd M i < 4) ∧ faultI M i < (bxs M i).2.2 then ((i : Int), (fsd M i : Int), faultI M i) else bxs M i
theorem bxs_b (hw : WF M) : ∀ i, i ≤ mN M → -1 ≤ (bxs M i).1 ∧ (bxs M i).1 < (i : Int) ∧ -1 ≤ (bxs M i).2.1 ∧ (bxs M i).2.1 < 4 ∧ 0 ≤ (bxs M i).2.2 ∧ (bxs M i).2.2 ≤ 1000000 ∧ ((bxs M i).1 = -1 → bxs M i = (-1, -1, 1000000)) := by
  intro i
  induction i with
  | zero =>
    intro _
    have e : bxs M 0 = (-1, -1, 1000000) := rfl
    rw [e]
    exact ⟨by decide, by decide, by decide, by decide, by decide, by decide, fun _ => rfl⟩
  | succ i ih =>
    intro hi
    have h1 := ih (by omega)
    have h2 := fault_b hw.w2 hw.2.1 (show i < mN M by omega)
    simp only [bxs]
    split
    · rename_i q
      refine ⟨?_, ?_, ?_, ?_, ?_, ?_, ?_⟩
      · show -1 ≤ (i : Int); omega
      · show (i : Int) < ((i + 1 : Nat) : Int); omega
      · show -1 ≤ (fsd M i : Int); omega
      · show (fsd M i : Int) < 4; omega
      · exact h2.1
      · show faultI M i ≤ 1000000; omega
      · intro z
        have z : (i : Int) = -1 := z
        omega
    · exact ⟨h1.1, by omega, h1.2.2.1, h1.2.2.2.1, h1.2.2.2.2.1, h1.2.2.2.2.2.1, h1.2.2.2.2.2.2⟩
noncomputable def exitA (M : Mz) (a : Int) : Int := if 0 ≤ a ∧ a ≤ 2 then (if (bxs M (mN M)).1 < 0 then -4 else if a = 0 then (bxs M (mN M)).1 else if a = 1 then (bxs M (mN M)).2.1 else (bxs M (mN M)).2.2) else -1
/-- the gain of the way from the entry is that of the way back -/
theorem wy_back (hw : WF2 M) (hr : r < mN M) (hx : x < mN M) : sumL (gain M) (wy (mC M) (mO M) r x) = sumL (gain M) (wy (mC M) (mO M) x r) := by
  by_cases h : conn (mC M) (mO M) r x
  · obtain ⟨V, len, prev, hrt⟩ := rt_ex hw hr
    obtain ⟨V2, len2, prev2, hrt2⟩ := rt_ex hw hx
    have hV := (rt_conn hrt).mpr h
    obtain ⟨h1, h2, h3⟩ := rt_back hw.1.1 hw.2.2 hrt hrt2 hV
    rw [wy_rt hw.1.1 hw.2.2 hrt hV, wy_rt hw.1.1 hw.2.2 hrt2 h1, h3, sumL_rev]
  · rw [wy_no h, wy_no (fun z => h (conn_sy z))]
def clsT (t : Int × Int × Int) : Int × Int × Int := if t.1 = -1 then (-1, -1, 0) else t
theorem bestExit3 (hF : 36 < F) (h : R3 v M) (hw : WF M) (ha : -2147483648 ≤ a ∧ a < 2147483648) : ∃ z, mX7_bestExit F v w (jI a) = some (jI (exitA M a), z) := by
  have hw2 := hw.w2
  have hN := dm_le hw.1
  have hE : mE M < mN M := hw.2.2.2.2.1.1
  unfold mX7_bestExit exitA
  simp only [jn_e]
  by_cases h0 : a < 0
  · rw [j_0, jlt_t ha (by omega) h0, if_neg (by omega)]; exact ⟨_, rfl⟩
  · rw [j_0, jlt_f ha (by omega) (by omega), j_2]
    by_cases h2 : a ≤ 2
    · rw [jle_t ha (by omega) h2, if_pos (by omega)]
      obtain ⟨w', q1, q2⟩ := findFrom3 (w := w) hF h hw2 hE
      rw [entry3 h, bnd_s, q1, bnd_s, toneSum3 hF h hw.1, bnd_s]
      have hbN := bxs_b hw (mN M) (Nat.le_refl _)
      have key := lpr_fn (L := mX7_bestExit_L48 F v w' (jI (toneS M : Nat)) (mX7_bestExit_K131 (jI a) w')) (e := mX7_bestExit_K131 (jI a) w' (jI (clsT (bxs M (mN M))).1, jI (clsT (bxs M (mN M))).2.1, jI (clsT (bxs M (mN M))).2.2)) (F := F) (fun i => (jI (clsT (bxs M i)).1, jI (clsT (bxs M i)).2.1, jI (clsT (bxs M i)).2.2, jI (i : Nat))) (mN M) (by
        intro i hi self
        have hb := bxs_b hw i (by omega)
        have hfb := fault_b hw2 hw.2.1 hi
        simp only [mX7_bestExit_L48, cells3 h, bnd_s]
        rw [nle_f hi (by omega), freeSide3 (by omega) h hw hi, bnd_s]
        simp only [jn_e, jS]
        by_cases e1 : fsd M i < 4
        · rw [if_pos e1, if_neg (by rw [nem1 (by omega)]; exact id), wq_reach hw2 hE hi q2, bnd_s, ifb]
          by_cases e2 : 0 ≤ dst (mC M) (mO M) (mE M) i
          · rw [if_pos (decide_eq_true e2), wq_gain hw2 hi q2 (dst_c.mp e2), bnd_s, jI_add]
            have hf : (toneS M : Int) + sumL (gain M) (wy (mC M) (mO M) (mE M) i) = faultI M i := by
              unfold faultI; rw [wy_back hw2 hE hi]
            rw [hf]
            by_cases e3 : (bxs M i).1 = -1
            · have e4 := hb.2.2.2.2.2.2 e3
              have e5 : bxs M (i + 1) = ((i : Int), (fsd M i : Int), faultI M i) := by
                simp only [bxs]
                rw [if_pos ⟨⟨e2, e1⟩, by rw [e4]; show faultI M i < 1000000; omega⟩]
              have e6 : clsT (bxs M i) = (-1, -1, 0) := by unfold clsT; rw [if_pos e3]
              have e7 : clsT (bxs M (i + 1)) = ((i : Int), (fsd M i : Int), faultI M i) := by
                rw [e5]; unfold clsT
                rw [if_neg (by show ¬ ((i : Int) = -1); omega)]
              rw [e6, e7, if_pos (by decide)]
            · have e6 : clsT (bxs M i) = bxs M i := by unfold clsT; rw [if_neg e3]
              rw [e6, j_m1, jeq_f (by omega) (by omega) e3]
              by_cases e7 : faultI M i < (bxs M i).2.2
              · have e5 : bxs M (i + 1) = ((i : Int), (fsd M i : Int), faultI M i) := by
                  simp only [bxs]
                  rw [if_pos ⟨⟨e2, e1⟩, e7⟩]
                have e8 : clsT (bxs M (i + 1)) = ((i : Int), (fsd M i : Int), faultI M i) := by
                  rw [e5]; unfold clsT
                  rw [if_neg (by show ¬ ((i : Int) = -1); omega)]
                rw [jle_f (by omega) (by omega) e7, e8]
              · have e5 : bxs M (i + 1) = bxs M i := by
                  simp only [bxs]
                  rw [if_neg (fun z => e7 z.2)]
                rw [jle_t (by omega) (by omega) (by omega), e5, e6]
          · have e5 : bxs M (i + 1) = bxs M i := by
              simp only [bxs]
              rw [if_neg (fun z => e2 z.1.1)]
            rw [if_neg (by rw [decide_eq_false e2]; exact Bool.noConfusion), e5]
        · have e5 : bxs M (i + 1) = bxs M i := by
            simp only [bxs]
            rw [if_neg (fun z => e1 z.1.2)]
          rw [if_neg e1, if_pos rfl, e5]) (by
        intro self
        simp only [mX7_bestExit_L48, cells3 h, bnd_s]
        rw [nle_t (by omega) (by omega)]) (by omega)
      have key2 : lpr (mX7_bestExit_L48 F v w' (jI (toneS M : Nat)) (mX7_bestExit_K131 (jI a) w')) F ((-1 : Int32), (-1 : Int32), jI 0, jI 0) = _ := key
      rw [key2]
      simp only [mX7_bestExit_K131, jn_e]
      by_cases e : (bxs M (mN M)).1 = -1
      · have e6 : clsT (bxs M (mN M)) = (-1, -1, 0) := by unfold clsT; rw [if_pos e]
        rw [e6, if_pos (by decide), if_pos (by omega)]
        exact ⟨_, rfl⟩
      · have e6 : clsT (bxs M (mN M)) = bxs M (mN M) := by unfold clsT; rw [if_neg e]
        rw [e6, j_m1, jeq_f (by omega) (by omega) e, if_neg (by omega), choose3 ha, bnd_s]
        refine ⟨w', ?_⟩
        by_cases q : a = 0
        · rw [if_pos q, if_pos q]
        · rw [if_neg q, if_neg q]
          by_cases q1 : a = 1
          · rw [if_pos q1, if_pos q1]
          · rw [if_neg q1, if_neg q1]
    · rw [jle_f ha (by omega) (by omega), if_neg (by omega)]; exact ⟨_, rfl⟩
theorem areJoined8 {f0 q0 : nF} {p q : Nat} (hF : 36 < F) (h : R8 s M) (hw : WF2 M) (hp : p < mN M) (hq : q < mN M) : ∃ z, mX8_areJoined F s f0 q0 (jI (p : Nat)) (jI (q : Nat)) = some (bI (decide (0 ≤ dst (mC M) (mO M) p q)), z) := by
  have hN := dm_le hw.1
  obtain ⟨fq, q1, q2⟩ := measures8 (f0 := f0) (q0 := q0) hF h hw hp
  unfold mX8_areJoined
  rw [q1, bnd_s, gdi (by omega) (by omega)]
  simp only [jn_e, jcl q (by omega), q2 q hq]
  by_cases e : 0 ≤ dst (mC M) (mO M) p q
  · rw [j_0, jlt_f (dst_b hw hp hq) (by omega) e, decide_eq_true e]
    exact ⟨_, rfl⟩
  · rw [j_0, jlt_t (dst_b hw hp hq) (by omega) (by omega), decide_eq_false e]
    exact ⟨_, rfl⟩
noncomputable def cur (M : Mz) (c i : Nat) : Int × Int × Int := if (0 ≤ dst (mC M) (mO M) (mE M) c ∧ sd (freeF M c) i < 4) ∧ faultI M c < (bxs M c).2.2 then ((c : Int), (sd (freeF M c) i : Int), faultI M c) else bxs M c
theorem cur_t (h1 : 0 ≤ dst (mC M) (mO M) (mE M) c) (h2 : sd (freeF M c) i < 4) (h3 : faultI M c < (bxs M c).2.2) : cur M c i = ((c : Int), (sd (freeF M c) i : Int), faultI M c) := if_pos ⟨⟨h1, h2⟩, h3⟩
theorem cur_f (h : ¬ ((0 ≤ dst (mC M) (mO M) (mE M) c ∧ sd (freeF M c) i < 4) ∧ faultI M c < (bxs M c).2.2)) : cur M c i = bxs M c := if_neg h
theorem exit_in8 (hF : 36 < F) (h : R8 s M) (hw : WF M) (hc : c < mN M) {x6 : Int32 × Int32 × Int32 × Int32 × nF × nF × nF × nF × Int32 × Int32} (hx : x6.2.2.2.1 = jI (c : Nat)) {f1 f2 f3 f4 : nF} {i1 i2 : Int32} :
    ∃ y : Int32 × Int32 × Int32 × nF × nF × nF × nF × Int32 × Int32, (y.1 = jI (bxs M (c + 1)).1 ∧ y.2.1 = jI (bxs M (c + 1)).2.1 ∧ y.2.2.1 = jI (bxs M (c + 1)).2.2) ∧ ∀ j10, lpr (mX8_bestExit_L34 F s x6 j10) F (jI (bxs M c).1, jI (bxs M c).2.1, jI (bxs M c).2.2, (3 : Int32), f1, f2, f3, f4, i1, i2) = j10 y := by
  have hw2 := hw.w2
  have hN := dm_le hw.1
  have hE : mE M < mN M := hw.2.2.2.2.1.1
  have hb := bxs_b hw c (by omega)
  have hfb := fault_b hw2 hw.2.1 hc
  have hend : cur M c 4 = bxs M (c + 1) := rfl
  refine lpr_j (L := fun j10 => mX8_bestExit_L34 F s x6 j10) (fun i y => y.2.2.2.1 = jI (3 - (i : Int)) ∧ y.1 = jI (cur M c i).1 ∧ y.2.1 = jI (cur M c i).2.1 ∧ y.2.2.1 = jI (cur M c i).2.2) 4 ?_ ⟨j_3, ?_⟩ (by omega)
  · intro i y hi ⟨y0, y1, y2, y3⟩
    by_cases e : i = 4
    · left
      subst e
      refine ⟨(y.1, y.2.1, y.2.2.1, y.2.2.2.2.1, y.2.2.2.2.2.1, y.2.2.2.2.2.2.1, y.2.2.2.2.2.2.2.1, y.2.2.2.2.2.2.2.2.1, y.2.2.2.2.2.2.2.2.2), ⟨y1, y2, y3⟩, fun j self => ?_⟩
      simp only [mX8_bestExit_L34, y0]
      rw [if_pos (by decide)]
    · right
      have hi4 : i < 4 := by omega
      refine ⟨hi4, ?_⟩
      have e3 : jI (3 - (i : Int)) = jI ((3 - i : Nat) : Int) := by congr 1; omega
      have e3s : jI ((3 - i : Nat) : Int) + (-1 : Int32) = jI (3 - ((i + 1 : Nat) : Int)) := by rw [j_m1, jI_add]; congr 1; omega
      have hsd : sd (freeF M c) (i + 1) = if freeF M c (3 - i) = true then 3 - i else sd (freeF M c) i := rfl
      obtain ⟨z, hz⟩ := areJoined8 (f0 := y.2.2.2.2.1) (q0 := y.2.2.2.2.2.1) hF h hw2 hE hc
      obtain ⟨u, hu1, hu2⟩ := faultTo8 (f0 := z.1) (q0 := z.2) (o0 := y.2.2.2.2.2.2.1) (st0 := y.2.2.2.2.2.2.2.1) (wc := y.2.2.2.2.2.2.2.2.1) (tu := y.2.2.2.2.2.2.2.2.2) hF h hw2 hc hE
      by_cases hfr : freeF M c (3 - i) = true
      · by_cases hjo : 0 ≤ dst (mC M) (mO M) (mE M) c
        · have hs0 : sd (freeF M c) (i + 1) = 3 - i := by rw [hsd, if_pos hfr]
          have hbit : (∃ b : Bool, ((if u.1 < y.2.2.1 then (1 : Int32) else if y.1 = jI (c : Nat) then (if u.1 = y.2.2.1 then (1 : Int32) else (0 : Int32)) else (0 : Int32)) = bI b) ∧ (if b = true then ((c : Int), ((3 - i : Nat) : Int), faultI M c) else cur M c i) = cur M c (i + 1)) := by
            have hcb : -1 ≤ (bxs M c).1 ∧ (bxs M c).1 < (c : Int) := ⟨hb.1, hb.2.1⟩
            rw [hu2, y3, y1]
            by_cases q : faultI M c < (bxs M c).2.2
            · refine ⟨true, ?_, by rw [if_pos rfl, cur_t hjo (by omega) q, hs0]⟩
              by_cases q2 : sd (freeF M c) i < 4
              · rw [cur_t hjo q2 q]
                show (if jI (faultI M c) < jI (faultI M c) then (1 : Int32) else if jI (c : Int) = jI (c : Nat) then (if jI (faultI M c) = jI (faultI M c) then (1 : Int32) else (0 : Int32)) else (0 : Int32)) = bI true
                rw [jlt_f (by omega) (by omega) (by omega), if_pos rfl, if_pos rfl]; rfl
              · rw [cur_f (fun z => q2 z.1.2), jlt_t (by omega) (by omega) q]; rfl
            · refine ⟨false, ?_, by rw [if_neg Bool.noConfusion, cur_f (fun z => q z.2), cur_f (fun z => q z.2)]⟩
              rw [cur_f (fun z => q z.2), jlt_f (by omega) (by omega) (by omega), jeq_f (by omega) (by omega) (by omega)]; rfl
          obtain ⟨b, hb1, hb2⟩ := hbit
          refine ⟨(jI (cur M c (i + 1)).1, jI (cur M c (i + 1)).2.1, jI (cur M c (i + 1)).2.2, jI (3 - ((i + 1 : Nat) : Int)), u.2.1, u.2.2.1, u.2.2.2.1, u.2.2.2.2.1, u.2.2.2.2.2.1, u.2.2.2.2.2.2), ⟨rfl, rfl, rfl, rfl⟩, fun j self => ?_⟩
          simp only [mX8_bestExit_L34, y0, hx]
          rw [if_neg (by rw [e3, nn0 (by omega)]; exact id), e3, mayBeExit8 h hw hc (by omega), bnd_s]
          simp only [jn_e, ifb, gl2, cl2, h.2.2.1]
          rw [if_pos hfr, hz, bnd_s, ifb, if_pos (decide_eq_true hjo), hu1, bnd_s]
          have hT : b = true → self (jI (c : Nat), jI ((3 - i : Nat) : Int), u.1, jI ((3 - i : Nat) : Int) + (-1 : Int32), u.2.1, u.2.2.1, u.2.2.2.1, u.2.2.2.2.1, u.2.2.2.2.2.1, u.2.2.2.2.2.2) = self (jI (cur M c (i + 1)).1, jI (cur M c (i + 1)).2.1, jI (cur M c (i + 1)).2.2, jI (3 - ((i + 1 : Nat) : Int)), u.2.1, u.2.2.1, u.2.2.2.1, u.2.2.2.2.1, u.2.2.2.2.2.1, u.2.2.2.2.2.2) := by
            intro hb
            rw [← hb2, if_pos hb, e3s, hu2]
          have hFa : b = false → self (y.1, y.2.1, y.2.2.1, jI ((3 - i : Nat) : Int) + (-1 : Int32), u.2.1, u.2.2.1, u.2.2.2.1, u.2.2.2.2.1, u.2.2.2.2.2.1, u.2.2.2.2.2.2) = self (jI (cur M c (i + 1)).1, jI (cur M c (i + 1)).2.1, jI (cur M c (i + 1)).2.2, jI (3 - ((i + 1 : Nat) : Int)), u.2.1, u.2.2.1, u.2.2.2.1, u.2.2.2.2.1, u.2.2.2.2.2.1, u.2.2.2.2.2.2) := by
            intro hb
            rw [← hb2, if_neg (by rw [hb]; exact Bool.noConfusion), e3s, y1, y2, y3]
          have b1 : (1 : Int32) = bI b → b = true := by cases b <;> decide
          have b0 : (0 : Int32) = bI b → b = false := by cases b <;> decide
          by_cases c1 : u.1 < y.2.2.1
          · rw [if_pos c1] at hb1
            simp only [if_pos c1, ne10, if_false]
            exact hT (b1 hb1)
          · rw [if_neg c1] at hb1
            by_cases c2 : y.1 = jI (c : Nat)
            · rw [if_pos c2] at hb1
              by_cases c3 : u.1 = y.2.2.1
              · rw [if_pos c3] at hb1
                simp only [if_neg c1, if_pos c2, if_pos c3, ne10, if_false]
                exact hT (b1 hb1)
              · rw [if_neg c3] at hb1
                simp only [if_neg c1, if_pos c2, if_neg c3, if_true]
                exact hFa (b0 hb1)
            · rw [if_neg c2] at hb1
              simp only [if_neg c1, if_neg c2, if_true]
              exact hFa (b0 hb1)
        · have e9 : cur M c (i + 1) = bxs M c := by unfold cur; rw [if_neg (fun z => hjo z.1.1)]
          have e8 : cur M c i = bxs M c := by unfold cur; rw [if_neg (fun z => hjo z.1.1)]
          refine ⟨(y.1, y.2.1, y.2.2.1, jI (3 - ((i + 1 : Nat) : Int)), z.1, z.2, y.2.2.2.2.2.2.1, y.2.2.2.2.2.2.2.1, y.2.2.2.2.2.2.2.2.1, y.2.2.2.2.2.2.2.2.2), ⟨rfl, by rw [e9, ← e8]; exact y1, by rw [e9, ← e8]; exact y2, by rw [e9, ← e8]; exact y3⟩, fun j self => ?_⟩
          simp only [mX8_bestExit_L34, y0, hx]
          rw [if_neg (by rw [e3, nn0 (by omega)]; exact id), e3, mayBeExit8 h hw hc (by omega), bnd_s]
          simp only [jn_e, ifb, gl2, cl2, h.2.2.1]
          rw [if_pos hfr, hz, bnd_s, ifb, if_neg (by rw [decide_eq_false hjo]; exact Bool.noConfusion), e3s]
      · have e9 : cur M c (i + 1) = cur M c i := by
          unfold cur
          rw [hsd, if_neg hfr]
        refine ⟨(y.1, y.2.1, y.2.2.1, jI (3 - ((i + 1 : Nat) : Int)), y.2.2.2.2.1, y.2.2.2.2.2.1, y.2.2.2.2.2.2.1, y.2.2.2.2.2.2.2.1, y.2.2.2.2.2.2.2.2.1, y.2.2.2.2.2.2.2.2.2), ⟨rfl, by rw [e9]; exact y1, by rw [e9]; exact y2, by rw [e9]; exact y3⟩, fun j self => ?_⟩
        simp only [mX8_bestExit_L34, y0, hx]
        rw [if_neg (by rw [e3, nn0 (by omega)]; exact id), e3, mayBeExit8 h hw hc (by omega), bnd_s]
        simp only [jn_e, ifb]
        rw [if_neg hfr, e3s]
  · have : cur M c 0 = bxs M c := by
      unfold cur
      rw [if_neg (fun z => by have := z.1.2; simp [sd] at this)]
    rw [this]
    exact ⟨rfl, rfl, rfl⟩
theorem bestExit8 {f1 f2 f3 f4 : nF} {i1 i2 : Int32} (hF : 36 < F) (h : R8 s M) (hw : WF M) (ha : -2147483648 ≤ a ∧ a < 2147483648) : ∃ z, mX8_bestExit F s f1 f2 f3 f4 i1 i2 (jI a) = some (jI (exitA M a), z) := by
  have hN := dm_le hw.1
  have hbN := bxs_b hw (mN M) (Nat.le_refl _)
  unfold mX8_bestExit exitA
  rw [j_0, j_2, in8 ha (by omega) (by omega), bnd_s, ← j_0, ifb]
  simp only [jn_e]
  by_cases h0 : 0 ≤ a ∧ a ≤ 2
  · rw [if_pos (decide_eq_true h0), if_pos h0]
    have key := lpr_r (Q := fun z : Int32 × nF × nF × nF × nF × Int32 × Int32 => z.1 = jI (if (bxs M (mN M)).1 < 0 then -4 else if a = 0 then (bxs M (mN M)).1 else if a = 1 then (bxs M (mN M)).2.1 else (bxs M (mN M)).2.2)) (L := mX8_bestExit_L22 F s (mX8_bestExit_K150 (jI a))) (F := F) (fun i y => y.1 = jI (bxs M i).1 ∧ y.2.1 = jI (bxs M i).2.1 ∧ y.2.2.1 = jI (bxs M i).2.2 ∧ y.2.2.2.1 = jI (i : Nat)) (mN M) (x := ((-1 : Int32), (-1 : Int32), (1000000 : Int32), (0 : Int32), f1, f2, f3, f4, i1, i2)) (by
      intro i y hi ⟨y1, y2, y3, y4⟩
      by_cases e : i = mN M
      · left
        refine ⟨(jI (if (bxs M (mN M)).1 < 0 then -4 else if a = 0 then (bxs M (mN M)).1 else if a = 1 then (bxs M (mN M)).2.1 else (bxs M (mN M)).2.2), y.2.2.2.2.1, y.2.2.2.2.2.1, y.2.2.2.2.2.2.1, y.2.2.2.2.2.2.2.1, y.2.2.2.2.2.2.2.2.1, y.2.2.2.2.2.2.2.2.2), rfl, fun self => ?_⟩
        simp only [mX8_bestExit_L22, cells8 h, bnd_s, y4]
        rw [nle_t (by omega) (by omega), y1, y2, y3, e]
        simp only [mX8_bestExit_K150, jn_e]
        by_cases e0 : (bxs M (mN M)).1 < 0
        · rw [j_0, jle_f (by omega) (by omega) e0, if_pos e0]; rfl
        · rw [j_0, jle_t (by omega) (by omega) (by omega), if_neg e0]
          by_cases q : a = 0
          · rw [jeq_t q, if_pos q]
          · rw [jeq_f ha (by omega) q, if_neg q]
            by_cases q1 : a = 1
            · rw [j_1, jeq_t q1, if_pos q1]
            · rw [j_1, jeq_f ha (by omega) q1, if_neg q1]
      · right
        have hi2 : i < mN M := by omega
        obtain ⟨z, ⟨z1, z2, z3⟩, zL⟩ := exit_in8 (x6 := y) (f1 := y.2.2.2.2.1) (f2 := y.2.2.2.2.2.1) (f3 := y.2.2.2.2.2.2.1) (f4 := y.2.2.2.2.2.2.2.1) (i1 := y.2.2.2.2.2.2.2.2.1) (i2 := y.2.2.2.2.2.2.2.2.2) hF h hw hi2 y4
        refine ⟨hi2, (z.1, z.2.1, z.2.2.1, jI ((i + 1 : Nat) : Int), z.2.2.2.1, z.2.2.2.2.1, z.2.2.2.2.2.1, z.2.2.2.2.2.2.1, z.2.2.2.2.2.2.2.1, z.2.2.2.2.2.2.2.2), ⟨z1, z2, z3, rfl⟩, fun self => ?_⟩
        simp only [mX8_bestExit_L22, cells8 h, bnd_s, y4]
        rw [nle_f hi2 (by omega)]
        simp only [jn_e]
        rw [y1, y2, y3, zL]
        simp only [mX8_bestExit_K144, y4, jS]) ⟨j_m1, j_m1, j_1000000, j_0⟩ (by omega)
    obtain ⟨z, z1, z2⟩ := key
    rw [z2, ← z1]
    exact ⟨_, rfl⟩
  · rw [if_neg (by rw [decide_eq_false h0]; exact Bool.noConfusion), if_neg h0]
    exact ⟨_, rfl⟩
end BX
end
section
/-! THE WALK along the right hand -/
def dr (l t : Nat) : Nat := (l + 5 - t) % 4
theorem dr_lt {l t : Nat} : dr l t < 4 := Nat.mod_lt _ (by omega)
def atX (M : Mz) (c d : Nat) : Bool := decide (mX M = c ∧ mXs M = d)
def wdr (M : Mz) (c l : Nat) : Nat := lowF (fun t => opn (mC M) (mN M) (mO M) c (dr l t) || atX M c (dr l t)) 4
/-- the cell to which an open direction leads -/
def nbD (M : Mz) (c d : Nat) : Nat := (nb (mC M) (mN M) c d).getD 0
def wlk (M : Mz) : Nat → Nat → Nat → (Nat → Bool) → (Nat → Nat) → Bool × (Nat → Nat)
  | 0, _, _, _, vis => (false, vis)
  | n + 1, c, l, W, vis => if W (4 * c + l) = true then (false, vis) else
      if wdr M c l < 4 then (if atX M c (dr l (wdr M c l)) = true then (true, set1 vis c (vis c + 1)) else wlk M n (nbD M c (dr l (wdr M c l))) (dr l (wdr M c l)) (set1 W (4 * c + l) true) (set1 vis c (vis c + 1)))
      else (false, set1 vis c (vis c + 1))
def wres (M : Mz) : Bool × (Nat → Nat) := wlk M 145 (mE M) (opp (mEs M)) (fun _ => false) (fun _ => 0)
theorem dr_all : ∀ l t : Fin 4, ((((jI (l.val : Nat) + (1 : Int32)) + (4 : Int32)) - jI (t.val : Nat)) - (((jI (l.val : Nat) + (1 : Int32)) + (4 : Int32)) - jI (t.val : Nat)) / (4 : Int32) * (4 : Int32)) = jI (dr l.val t.val : Nat) := by decide +kernel
theorem dr8_all : ∀ l : Fin 4, ((jI (l.val : Nat) + (1 : Int32)) - (jI (l.val : Nat) + (1 : Int32)) / (4 : Int32) * (4 : Int32)) = jI (dr l.val 0 : Nat) ∧ jI (l.val : Nat) = jI (dr l.val 1 : Nat) ∧ ((jI (l.val : Nat) + (3 : Int32)) - (jI (l.val : Nat) + (3 : Int32)) / (4 : Int32) * (4 : Int32)) = jI (dr l.val 2 : Nat) ∧ ((jI (l.val : Nat) + (2 : Int32)) - (jI (l.val : Nat) + (2 : Int32)) / (4 : Int32) * (4 : Int32)) = jI (dr l.val 3 : Nat) := by decide +kernel
theorem bits_set1 : ∀ a b c d : Bool, ∀ i : Fin 4, jI ((b01 a + 2 * b01 b + 4 * b01 c + 8 * b01 d : Nat) : Int) ||| ((1 : Int32) <<< (jI (i.val : Nat) &&& 31)) = jI ((b01 (if i.val = 0 then true else a) + 2 * b01 (if i.val = 1 then true else b) + 4 * b01 (if i.val = 2 then true else c) + 8 * b01 (if i.val = 3 then true else d) : Nat) : Int) := by decide +kernel
def lkm (W : Nat → Bool) (c : Nat) : Nat := b01 (W (4 * c + 0)) + 2 * b01 (W (4 * c + 1)) + 4 * b01 (W (4 * c + 2)) + 8 * b01 (W (4 * c + 3))
/-- how many are true -/
def cntW (W : Nat → Bool) : Nat → Nat
  | 0 => 0
  | n + 1 => cntW W n + b01 (W n)
theorem cntW_set {W : Nat → Bool} {k : Nat} (hk : W k = false) : ∀ n, cntW (set1 W k true) n = cntW W n + (if k < n then 1 else 0) := by
  intro n
  induction n with
  | zero => rfl
  | succ n ih =>
    simp only [cntW, ih]
    by_cases e : n = k
    · subst e
      rw [set1_s, hk, if_neg (by omega), if_pos (by omega)]; rfl
    · rw [set1_n e]
      by_cases q : k < n
      · rw [if_pos q, if_pos (by omega)]; omega
      · rw [if_neg q, if_neg (by omega)]; omega
theorem cntW_le {W : Nat → Bool} : ∀ n, cntW W n ≤ n := by
  intro n
  induction n with
  | zero => exact Nat.le_refl _
  | succ n ih => simp only [cntW, b01]; split <;> omega
theorem cntW_full {W : Nat → Bool} : ∀ n, cntW W n = n → ∀ k, k < n → W k = true := by
  intro n
  induction n with
  | zero => intro _ k hk; omega
  | succ n ih =>
    intro h k hk
    simp only [cntW, b01] at h
    have := cntW_le (W := W) n
    by_cases q : W n = true
    · rw [if_pos q] at h
      by_cases e : k = n
      · subst e; exact q
      · exact ih (by omega) k (by omega)
    · rw [if_neg q] at h; omega
theorem sN_set {vis : Nat → Nat} {c n : Nat} (hc : c < n) : sN (set1 vis c (vis c + 1)) n = sN vis n + 1 := by
  have e : sN (set1 vis c (vis c + 1)) n = sN (fun x => vis x + (if x = c then 1 else 0)) n := sN_congr (fun x _ => by
    by_cases q : x = c
    · subst q; rw [set1_s, if_pos rfl]
    · rw [set1_n q, if_neg q]; rfl)
  rw [e, sN_add, sN_one, if_pos hc]
theorem jS_c (k : Nat) : jI (k : Int) + jI ((1 : Nat) : Int) = jI ((k + 1 : Nat) : Int) := by rw [jnA]
section WL
variable {v : MZ} {wk : WK} {s : nF} {M : Mz} {c d F n i r x l : Nat} {a b : Int}
theorem dr_e {t : Nat} (hl : l < 4) (ht : t < 4) : ((((jI (l : Nat) + (1 : Int32)) + (4 : Int32)) - jI (t : Nat)) - (((jI (l : Nat) + (1 : Int32)) + (4 : Int32)) - jI (t : Nat)) / (4 : Int32) * (4 : Int32)) = jI (dr l t : Nat) := dr_all ⟨l, hl⟩ ⟨t, ht⟩
theorem look_has {W : Nat → Bool} (hl : l < 4) : ((jI (lkm W c : Nat) &&& ((1 : Int32) <<< (jI (l : Nat) &&& 31))) = 0) = (W (4 * c + l) = false) := by
  have h := bits_has (W (4 * c + 0)) (W (4 * c + 1)) (W (4 * c + 2)) (W (4 * c + 3)) ⟨l, hl⟩
  have e : (if l = 0 then W (4 * c + 0) else if l = 1 then W (4 * c + 1) else if l = 2 then W (4 * c + 2) else W (4 * c + 3)) = W (4 * c + l) := d4 (P := fun l => (if l = 0 then W (4 * c + 0) else if l = 1 then W (4 * c + 1) else if l = 2 then W (4 * c + 2) else W (4 * c + 3)) = W (4 * c + l)) hl rfl rfl rfl rfl
  simp only [e] at h
  cases ho : W (4 * c + l)
  · rw [ho] at h; exact propext ⟨fun _ => rfl, fun _ => of_decide_eq_true h⟩
  · rw [ho] at h; exact propext ⟨fun q => absurd q (of_decide_eq_false h), fun q => by cases q⟩
theorem look_set {W : Nat → Bool} (hl : l < 4) : jI (lkm W c : Nat) ||| ((1 : Int32) <<< (jI (l : Nat) &&& 31)) = jI (lkm (set1 W (4 * c + l) true) c : Nat) := by
  have h := bits_set1 (W (4 * c + 0)) (W (4 * c + 1)) (W (4 * c + 2)) (W (4 * c + 3)) ⟨l, hl⟩
  unfold lkm
  rw [h]
  have : l = 0 ∨ l = 1 ∨ l = 2 ∨ l = 3 := by omega
  rcases this with rfl | rfl | rfl | rfl <;> simp [set1]
theorem lkm_ne {W : Nat → Bool} {c' : Nat} (hl : l < 4) (h : c' ≠ c) : lkm (set1 W (4 * c + l) true) c' = lkm W c' := by
  unfold lkm
  rw [set1_n (by omega), set1_n (by omega), set1_n (by omega), set1_n (by omega)]
theorem come3 {W : Nat → Bool} {vis : Nat → Nat} {q : Nat} (hc : c < 36) (hl : l < 4) (h1 : wk.2.1 = jI (q : Nat)) (h2 : wk.2.2.1 c = jI (vis c : Nat)) (h3 : wk.2.2.2 c = jI (lkm W c : Nat)) :
    mX5_come wk (jI (c : Nat)) (jI (l : Nat)) = some (jI ((q + 1 : Nat) : Int), upd wk.2.2.1 c (jI ((vis c + 1 : Nat) : Int)), upd wk.2.2.2 c (jI (lkm (set1 W (4 * c + l) true) c : Nat))) := by
  unfold mX5_come
  rw [at_i hc (by omega), bnd_s, h3, look_set hl, put_i hc (by omega), bnd_s, at_i hc (by omega), bnd_s, h2, jS, put_i hc (by omega), bnd_s, h1, jS]
theorem turn3 (hF : 4 < F) (h : R3 v M) (hw : WF M) (hc : c < mN M) (hl : l < 4) : mX5_turn F v (jI (c : Nat)) (jI (l : Nat)) = some (if wdr M c l < 4 then jI (dr l (wdr M c l) : Nat) else (-1 : Int32)) := by
  have hd := hw.1
  have hN := dm_le hd
  have hX : mX M < mN M := hw.2.2.2.2.2.1.1
  have hXs : mXs M < 4 := hw.2.2.2.2.2.1.2.1
  unfold mX5_turn
  simp only [jn_e]
  have hst : ∀ i, i < 4 → ∀ self : Int32 → Option Int32, mX5_turn_L2 v (jI (c : Nat)) (jI (l : Nat)) mX5_turn_K39 self (jI (i : Nat)) = if (opn (mC M) (mN M) (mO M) c (dr l i) || atX M c (dr l i)) = true then some (jI (dr l i : Nat)) else self (jI ((i + 1 : Nat) : Int)) := by
    intro i hi self
    simp only [mX5_turn_L2]
    rw [dr_e hl hi]
    rw [show (4 : Int32) = jI ((4 : Nat) : Int) from jl_4, nle_f hi (by omega), gnz (by omega) (by omega)]
    rw [hasP3 h hd hc dr_lt, bnd_s, ifb]
    cases ho : opn (mC M) (mN M) (mO M) c (dr l i)
    · rw [if_neg Bool.noConfusion, jl_1, isDoorAt3 (o := 1) (by omega) h.2.2.2.2.2.1 h.2.2.2.2.2.2.2 (by omega) (by omega) (by omega) (by have := dr_lt (l := l) (t := i); omega), bnd_s, ifb, ← jl_1, jS]
      rfl
    · rfl
  have key := lpr_r (Q := fun z : Int32 => z = if wdr M c l < 4 then jI (dr l (wdr M c l) : Nat) else (-1 : Int32)) (L := mX5_turn_L2 v (jI (c : Nat)) (jI (l : Nat)) mX5_turn_K39) (F := F) (fun i y => y = jI (i : Nat) ∧ ∀ d, d < i → (opn (mC M) (mN M) (mO M) c (dr l d) || atX M c (dr l d)) = false) 4 (x := (0 : Int32)) (by
    intro i y hi ⟨hy, hn⟩
    subst hy
    by_cases e : i = 4
    · left
      subst e
      refine ⟨(-1 : Int32), ?_, fun self => ?_⟩
      · have : ¬ wdr M c l < 4 := by
          intro z
          have g := (lowF_spec (f := fun t => opn (mC M) (mN M) (mO M) c (dr l t) || atX M c (dr l t)) 4).1 z
          have g2 := hn _ z
          have g : (opn (mC M) (mN M) (mO M) c (dr l (wdr M c l)) || atX M c (dr l (wdr M c l))) = true := g
          rw [g2] at g; cases g
        rw [if_neg this]
      · simp only [mX5_turn_L2, jl_4]
        rw [nle_t (Nat.le_refl _) (by omega)]
    · have hi4 : i < 4 := by omega
      cases q : (opn (mC M) (mN M) (mO M) c (dr l i) || atX M c (dr l i)) with
      | true =>
        left
        refine ⟨jI (dr l i : Nat), ?_, fun self => by rw [hst i hi4, q, if_pos rfl]⟩
        have : wdr M c l = i := lowF_eq hi4 q (fun k hk hkt => by
          apply Classical.byContradiction
          intro z
          have := hn k (by omega)
          rw [this] at hkt; cases hkt)
        rw [this, if_pos hi4]
      | false =>
        right
        refine ⟨hi4, jI ((i + 1 : Nat) : Int), ⟨rfl, fun d hd => ?_⟩, fun self => by rw [hst i hi4, q, if_neg Bool.noConfusion]⟩
        by_cases z : d = i
        · subst z; exact q
        · exact hn d (by omega)) ⟨jl_0, fun d hd => by omega⟩ hF
  obtain ⟨z, z1, z2⟩ := key
  rw [z2, z1]
theorem atX_nopn (hw : WF M) (h : atX M c d = true) : opn (mC M) (mN M) (mO M) c d = false := by
  obtain ⟨h1, h2⟩ := of_decide_eq_true h
  have := hw.2.2.2.2.2.1.2.2
  rw [h1, h2] at this
  unfold opn
  rw [this]; rfl
theorem wdr_opn (h1 : wdr M c l < 4) (h2 : ¬ atX M c (dr l (wdr M c l)) = true) : opn (mC M) (mN M) (mO M) c (dr l (wdr M c l)) = true := by
  have g : (opn (mC M) (mN M) (mO M) c (dr l (wdr M c l)) || atX M c (dr l (wdr M c l))) = true := (lowF_spec (f := fun t => opn (mC M) (mN M) (mO M) c (dr l t) || atX M c (dr l t)) 4).1 h1
  rcases Bool.or_eq_true_iff.mp g with q | q
  · exact q
  · exact absurd q h2
theorem opp_e (hEs : mEs M < 4) : mX5_opposite (jI (mEs M : Nat)) = some (jI (opp (mEs M) : Nat)) := by
  unfold mX5_opposite
  rw [gn4, opp8 hEs]
theorem take3 (hF : 144 < F) (h : R3 v M) (hw : WF M) : ∃ z, mX5_take F wk v = some z ∧ z.1 = bI (!(wres M).1) ∧ z.2.1 = jI (sN (wres M).2 (mN M) : Nat) ∧ (∀ c, c < mN M → z.2.2.1 c = jI ((wres M).2 c : Nat)) ∧ (∀ c, (wres M).2 c ≤ 145) := by
  have hd := hw.1
  have hN := dm_le hd
  have hE : mE M < mN M := hw.2.2.2.2.1.1
  have hEs : mEs M < 4 := hw.2.2.2.2.1.2.1
  have hX : mX M < mN M := hw.2.2.2.2.2.1.1
  have hXs : mXs M < 4 := hw.2.2.2.2.2.1.2.1
  unfold mX5_take
  rw [fill3 (by omega) (by omega), bnd_s, fill3 (by omega) (by omega), bnd_s, gz1, entry3 h, bnd_s, jl_0, at_i (by omega) (by omega), bnd_s, h.2.2.2.2.2.2.1, opp_e hEs, bnd_s]
  have key := lpr_r (Q := fun z : WK => z.1 = bI (!(wres M).1) ∧ z.2.1 = jI (sN (wres M).2 (mN M) : Nat) ∧ (∀ c, c < mN M → z.2.2.1 c = jI ((wres M).2 c : Nat)) ∧ (∀ c, (wres M).2 c ≤ 145)) (L := mX5_take_L46 F v) (F := F)
    (fun i y => ∃ c l W vis, y.1 = jI (c : Nat) ∧ y.2.1 = jI (l : Nat) ∧ c < mN M ∧ l < 4 ∧ y.2.2.1 = jI (i : Nat) ∧ y.2.2.2.1 = jI (sN vis (mN M) : Nat) ∧ (∀ c, c < mN M → y.2.2.2.2.1 c = jI (vis c : Nat)) ∧ (∀ c, c < mN M → y.2.2.2.2.2 c = jI (lkm W c : Nat)) ∧ wlk M (145 - i) c l W vis = wres M ∧ cntW W 144 = i ∧ ∀ c, vis c ≤ i) 144
    (x := (jI (mE M : Nat), jI (opp (mEs M) : Nat), jI ((0 : Nat) : Int), jI ((0 : Nat) : Int), mix 36 (fun _ => jI ((0 : Nat) : Int)) wk.2.2.1, mix 36 (fun _ => jI ((0 : Nat) : Int)) wk.2.2.2)) (by
    intro i y hi ⟨c, l, W, vis, y1, y2, hc, hl, y3, y4, y5, y6, hwk, hcW, hvi⟩
    have hu : wlk M (145 - i) c l W vis = if W (4 * c + l) = true then (false, vis) else
      if wdr M c l < 4 then (if atX M c (dr l (wdr M c l)) = true then (true, set1 vis c (vis c + 1)) else wlk M (145 - (i + 1)) (nbD M c (dr l (wdr M c l))) (dr l (wdr M c l)) (set1 W (4 * c + l) true) (set1 vis c (vis c + 1)))
      else (false, set1 vis c (vis c + 1)) := by
      rw [show 145 - i = (145 - (i + 1)) + 1 by omega]; rfl
    rw [hwk] at hu
    have hstep : ∀ self, mX5_take_L46 F v self y = if W (4 * c + l) = true then some ((1 : Int32), y.2.2.2.1, y.2.2.2.2.1, y.2.2.2.2.2) else
        if wdr M c l < 4 then (if atX M c (dr l (wdr M c l)) = true then some ((0 : Int32), jI ((sN vis (mN M) + 1 : Nat) : Int), upd y.2.2.2.2.1 c (jI ((vis c + 1 : Nat) : Int)), upd y.2.2.2.2.2 c (jI (lkm (set1 W (4 * c + l) true) c : Nat))) else (mX3_beside v (jI (c : Nat)) (jI (dr l (wdr M c l) : Nat))).bind fun r12 => self (r12, jI (dr l (wdr M c l) : Nat), jI ((i + 1 : Nat) : Int), jI ((sN vis (mN M) + 1 : Nat) : Int), upd y.2.2.2.2.1 c (jI ((vis c + 1 : Nat) : Int)), upd y.2.2.2.2.2 c (jI (lkm (set1 W (4 * c + l) true) c : Nat)))) else some ((1 : Int32), jI ((sN vis (mN M) + 1 : Nat) : Int), upd y.2.2.2.2.1 c (jI ((vis c + 1 : Nat) : Int)), upd y.2.2.2.2.2 c (jI (lkm (set1 W (4 * c + l) true) c : Nat))) := by
      intro self
      simp only [mX5_take_L46, y1, y2, y3]
      rw [jl_144, nlt_f hi (by omega), at_i (by omega) (by omega), bnd_s, y6 c hc]
      by_cases q : W (4 * c + l) = true
      · rw [if_neg (by rw [look_has hl, q]; exact Bool.noConfusion), if_pos q]
      · rw [if_pos (by rw [look_has hl]; simpa using q), if_neg q]
        rw [come3 (wk := ((1 : Int32), y.2.2.2.1, y.2.2.2.2.1, y.2.2.2.2.2)) (W := W) (vis := vis) (q := sN vis (mN M)) (by omega) hl y4 (y5 c hc) (y6 c hc), bnd_s, turn3 (by omega) h hw hc hl, bnd_s]
        by_cases q2 : wdr M c l < 4
        · have hdl := dr_lt (l := l) (t := wdr M c l)
          rw [if_pos q2, if_pos q2, if_neg (by rw [nem1 (by omega)]; exact id), show jI (dr l (wdr M c l) : Nat) = jI (dr l (wdr M c l) : Nat) from rfl]
          rw [show (1 : Int32) = jI ((1 : Nat) : Int) from jl_1, isDoorAt3 (o := 1) (by omega) h.2.2.2.2.2.1 h.2.2.2.2.2.2.2 (by omega) (by omega) (by omega) (by omega), bnd_s, ifb, jS_c]
          show (if atX M c (dr l (wdr M c l)) = true then _ else _) = _
          rfl
        · rw [if_neg q2, if_neg q2, if_pos rfl]
    by_cases q : W (4 * c + l) = true
    · left
      rw [if_pos q] at hu
      refine ⟨((1 : Int32), y.2.2.2.1, y.2.2.2.2.1, y.2.2.2.2.2), ⟨by rw [hu]; rfl, by rw [hu]; exact y4, by rw [hu]; exact y5, fun c' => by rw [hu]; have := hvi c'; show vis c' ≤ 145; omega⟩, fun self => by rw [hstep, if_pos q]⟩
    · rw [if_neg q] at hu
      have hi144 : i < 144 := by
        apply Classical.byContradiction
        intro z
        have : i = 144 := by omega
        exact q (cntW_full 144 (by omega) (4 * c + l) (by omega))
      have hvis : ∀ c', c' < mN M → upd y.2.2.2.2.1 c (jI ((vis c + 1 : Nat) : Int)) c' = jI (set1 vis c (vis c + 1) c' : Nat) := by
        intro c' hc'
        by_cases e : c' = c
        · subst e; rw [upd_s, set1_s]
        · rw [upd_n e, set1_n e]; exact y5 c' hc'
      have hvb : ∀ c', set1 vis c (vis c + 1) c' ≤ i + 1 := by
        intro c'
        have := hvi c'
        have := hvi c
        by_cases e : c' = c
        · subst e; rw [set1_s]; omega
        · rw [set1_n e]; omega
      by_cases q2 : wdr M c l < 4
      · rw [if_pos q2] at hu
        by_cases q3 : atX M c (dr l (wdr M c l)) = true
        · left
          rw [if_pos q3] at hu
          exact ⟨((0 : Int32), jI ((sN vis (mN M) + 1 : Nat) : Int), upd y.2.2.2.2.1 c (jI ((vis c + 1 : Nat) : Int)), upd y.2.2.2.2.2 c (jI (lkm (set1 W (4 * c + l) true) c : Nat))), ⟨by rw [hu]; rfl, by rw [hu, sN_set hc], by rw [hu]; exact hvis, fun c' => by rw [hu]; have := hvb c'; show set1 vis c (vis c + 1) c' ≤ 145; omega⟩, fun self => by rw [hstep, if_neg q, if_pos q2, if_pos q3]⟩
        · right
          rw [if_neg q3] at hu
          obtain ⟨o, ho1, ho2⟩ := opn_t.mp (wdr_opn q2 q3)
          have hoN := (num_lt hd hc dr_lt ho1).2
          have hnb : nbD M c (dr l (wdr M c l)) = o := by unfold nbD; rw [ho1]; rfl
          rw [hnb] at hu
          refine ⟨hi144, _, ⟨o, dr l (wdr M c l), set1 W (4 * c + l) true, set1 vis c (vis c + 1), ?_⟩, fun self => by rw [hstep, if_neg q, if_pos q2, if_neg q3, beside3 h hd hc dr_lt, bnd_s, ho1]⟩
          refine ⟨rfl, rfl, hoN, dr_lt, rfl, by rw [sN_set hc], hvis, fun c' hc' => ?_, hu.symm, ?_, hvb⟩
          · show upd y.2.2.2.2.2 c _ c' = _
            by_cases e : c' = c
            · subst e; rw [upd_s]
            · rw [upd_n e, lkm_ne hl e]; exact y6 c' hc'
          · rw [cntW_set (by simpa using q), hcW, if_pos (by omega)]
      · left
        rw [if_neg q2] at hu
        exact ⟨((1 : Int32), jI ((sN vis (mN M) + 1 : Nat) : Int), upd y.2.2.2.2.1 c (jI ((vis c + 1 : Nat) : Int)), upd y.2.2.2.2.2 c (jI (lkm (set1 W (4 * c + l) true) c : Nat))), ⟨by rw [hu]; rfl, by rw [hu, sN_set hc], by rw [hu]; exact hvis, fun c' => by rw [hu]; have := hvb c'; show set1 vis c (vis c + 1) c' ≤ 145; omega⟩, fun self => by rw [hstep, if_neg q, if_neg q2]⟩) ⟨mE M, opp (mEs M), fun _ => false, fun _ => 0, rfl, rfl, hE, opp_lt, rfl, by
      have : ∀ n, sN (fun _ => 0) n = 0 := by
        intro n
        induction n with
        | zero => rfl
        | succ n ih => simp only [sN, ih]
      rw [this], fun c hc => by
      show mix 36 (fun _ => jI ((0 : Nat) : Int)) wk.2.2.1 c = jI ((0 : Nat) : Int)
      exact mix_lt (by omega), fun c hc => by
      show mix 36 (fun _ => jI ((0 : Nat) : Int)) wk.2.2.2 c = jI ((0 : Nat) : Int)
      exact mix_lt (by omega), rfl, by
      have : ∀ n, cntW (fun _ => false) n = 0 := by
        intro n
        induction n with
        | zero => rfl
        | succ n ih => simp only [cntW, ih]; rfl
      exact this 144, fun c => Nat.le_refl 0⟩ hF
  obtain ⟨z, z1, z2⟩ := key
  exact ⟨z, z2, z1⟩
/-- the inner loop of the reference's walk -/
theorem walks_in8 (hF : 4 < F) (h : R8 s M) (hw : WF M) (hc : c < mN M) (hl : l < 4) {x5 : Int32 × Int32 × nF × nF} (h1 : x5.1 = jI (c : Nat)) (h2 : x5.2.1 = jI (l : Nat)) (j8 : Int32 → Option (Int32 × nF × nF)) :
    lpr (mX8_walks_L100 s x5 j8) F ((-1 : Int32), (0 : Int32)) = if wdr M c l < 4 then (if atX M c (dr l (wdr M c l)) = true then some ((1 : Int32), upd x5.2.2.1 c (x5.2.2.1 c + (1 : Int32)), upd x5.2.2.2 (4 * c + l) (vp_nar .boolean (1 : Int32))) else j8 (jI (dr l (wdr M c l) : Nat))) else j8 (-1 : Int32) := by
  have hd := hw.1
  have hN := dm_le hd
  have hX : mX M < mN M := hw.2.2.2.2.2.1.1
  have hXs : mXs M < 4 := hw.2.2.2.2.2.1.2.1
  have hst : ∀ i, i < 4 → ∀ self : (Int32 × Int32) → Option (Int32 × nF × nF), mX8_walks_L100 s x5 j8 self ((-1 : Int32), jI (i : Nat)) = if atX M c (dr l i) = true then some ((1 : Int32), upd x5.2.2.1 c (x5.2.2.1 c + (1 : Int32)), upd x5.2.2.2 (4 * c + l) (vp_nar .boolean (1 : Int32))) else self ((if opn (mC M) (mN M) (mO M) c (dr l i) = true then jI (dr l i : Nat) else (-1 : Int32)), jI ((i + 1 : Nat) : Int)) := by
    intro i hi self
    have hdl := dr_lt (l := l) (t := i)
    obtain ⟨g0, g1, g2, g3⟩ := dr8_all ⟨l, hl⟩
    have g0 : ((jI (l : Nat) + (1 : Int32)) - (jI (l : Nat) + (1 : Int32)) / (4 : Int32) * (4 : Int32)) = jI (dr l 0 : Nat) := g0
    have g1 : jI (l : Nat) = jI (dr l 1 : Nat) := g1
    have g2 : ((jI (l : Nat) + (3 : Int32)) - (jI (l : Nat) + (3 : Int32)) / (4 : Int32) * (4 : Int32)) = jI (dr l 2 : Nat) := g2
    have g3 : ((jI (l : Nat) + (2 : Int32)) - (jI (l : Nat) + (2 : Int32)) / (4 : Int32) * (4 : Int32)) = jI (dr l 3 : Nat) := g3
    have hfin : ∀ x12 : Int32, x12 = jI (dr l i : Nat) → (gd (inb (4 : Int32) 114) (jn (fun x14 : Unit => (mX8_isOpen s x5.1 x12).bind fun r16 => jn (fun x17 : Int32 => self (x17, jI (i : Nat) + (1 : Int32))) (fun j18 => if r16 = 0 then (j18 (-1 : Int32)) else (j18 x12))) (fun j15 => if x5.1 = (s (4 : Int32).toNatClampNeg) then (gd (inb (5 : Int32) 114) (if x12 = (s (5 : Int32).toNatClampNeg) then (gd (zb (1 : Int32)) (some ((1 : Int32), (upd x5.2.2.1 x5.1.toNatClampNeg ((x5.2.2.1 x5.1.toNatClampNeg) + (1 : Int32))), (upd x5.2.2.2 (((4 : Int32) * x5.1) + x5.2.1).toNatClampNeg (vp_nar .boolean (1 : Int32)))))) else (j15 ()))) else (j15 ())))) = if atX M c (dr l i) = true then some ((1 : Int32), upd x5.2.2.1 c (x5.2.2.1 c + (1 : Int32)), upd x5.2.2.2 (4 * c + l) (vp_nar .boolean (1 : Int32))) else self ((if opn (mC M) (mN M) (mO M) c (dr l i) = true then jI (dr l i : Nat) else (-1 : Int32)), jI ((i + 1 : Nat) : Int)) := by
      intro x12 hx
      subst hx
      simp only [gl4, jn_e, cl4, gl5, cl5, gz1, h1, h2, h.2.2.2.2.1, h.2.2.2.2.2.1, j4m, jnA, jcl c (show c < 2147483648 by omega), jcl (4 * c + l) (show 4 * c + l < 2147483648 by omega), isOpen8 h hd hc hdl, bnd_s, ifb, jS]
      unfold atX
      by_cases e : mX M = c
      · rw [neq_t e.symm]
        by_cases e2 : mXs M = dr l i
        · rw [neq_t e2.symm, if_pos (decide_eq_true ⟨e, e2⟩)]
        · rw [neq_f (fun z => e2 z.symm) (by omega) (by omega), if_neg (show ¬ (decide (mX M = c ∧ mXs M = dr l i) = true) by rw [decide_eq_false (fun z => e2 z.2)]; exact Bool.noConfusion)]
          by_cases ho : opn (mC M) (mN M) (mO M) c (dr l i) = true
          · rw [if_pos ho, if_pos ho]
          · rw [if_neg ho, if_neg ho]
      · rw [neq_f (fun z => e z.symm) (by omega) (by omega), if_neg (show ¬ (decide (mX M = c ∧ mXs M = dr l i) = true) by rw [decide_eq_false (fun z => e z.1)]; exact Bool.noConfusion)]
        by_cases ho : opn (mC M) (mN M) (mO M) c (dr l i) = true
        · rw [if_pos ho, if_pos ho]
        · rw [if_neg ho, if_neg ho]
    have hfin2 := hfin
    simp only [jn_e] at hfin2
    simp only [mX8_walks_L100, jn_e, gn4]
    rw [show (4 : Int32) = jI ((4 : Nat) : Int) from jl_4, nle_f hi (by omega), ← jl_4, if_neg (by decide)]
    have hi' : i = 0 ∨ i = 1 ∨ i = 2 ∨ i = 3 := by omega
    rcases hi' with rfl | rfl | rfl | rfl
    · rw [if_pos (by decide)]
      exact hfin2 _ (by rw [h2]; exact g0)
    · rw [if_neg (by decide), if_pos (by decide)]
      exact hfin2 _ (by rw [h2]; exact g1)
    · rw [if_neg (by decide), if_neg (by decide), if_pos (by decide)]
      exact hfin2 _ (by rw [h2]; exact g2)
    · rw [if_neg (by decide), if_neg (by decide), if_neg (by decide)]
      exact hfin2 _ (by rw [h2]; exact g3)
  have hlow := lowF_spec (f := fun t => opn (mC M) (mN M) (mO M) c (dr l t) || atX M c (dr l t)) 4
  have hlow1 : wdr M c l < 4 → (opn (mC M) (mN M) (mO M) c (dr l (wdr M c l)) || atX M c (dr l (wdr M c l))) = true := hlow.1
  have hlow2 : wdr M c l ≤ 4 := hlow.2.1
  have hlow3 : ∀ t, t < wdr M c l → (opn (mC M) (mN M) (mO M) c (dr l t) || atX M c (dr l t)) = false := hlow.2.2
  refine lpr_to (E := fun e => e = if wdr M c l < 4 then (if atX M c (dr l (wdr M c l)) = true then some ((1 : Int32), upd x5.2.2.1 c (x5.2.2.1 c + (1 : Int32)), upd x5.2.2.2 (4 * c + l) (vp_nar .boolean (1 : Int32))) else j8 (jI (dr l (wdr M c l) : Nat))) else j8 (-1 : Int32)) (L := mX8_walks_L100 s x5 j8)
    (fun i y => y.2 = jI (i : Nat) ∧ (y.1 = (-1 : Int32) ∧ i ≤ wdr M c l ∨ i = wdr M c l + 1 ∧ wdr M c l < 4 ∧ y.1 = jI (dr l (wdr M c l) : Nat) ∧ ¬ atX M c (dr l (wdr M c l)) = true)) 4 ?_ F 0 _ ⟨jl_0, Or.inl ⟨rfl, by omega⟩⟩ (by omega) (by omega)
  rintro i ⟨y1, y2⟩ hi ⟨hy2, hy⟩
  have hy2 : y2 = jI (i : Nat) := hy2
  subst hy2
  rcases hy with ⟨e1, e2⟩ | ⟨e1, e2, e3, e4⟩
  · have e1 : y1 = (-1 : Int32) := e1
    subst e1
    by_cases e : i = 4
    · left
      subst e
      refine ⟨j8 (-1 : Int32), by rw [if_neg (by omega)], fun self => ?_⟩
      simp only [mX8_walks_L100]
      rw [if_pos (by decide)]
    · have hi4 : i < 4 := by omega
      by_cases q : i = wdr M c l
      · have hor := hlow1 (by omega)
        rw [← q] at hor
        by_cases qx : atX M c (dr l i) = true
        · left
          exact ⟨_, by rw [← q, if_pos hi4, if_pos qx], fun self => by rw [hst i hi4, if_pos qx]⟩
        · right
          have ho : opn (mC M) (mN M) (mO M) c (dr l i) = true := by
            rcases Bool.or_eq_true_iff.mp hor with z | z
            · exact z
            · exact absurd z qx
          exact ⟨by omega, (jI (dr l i : Nat), jI ((i + 1 : Nat) : Int)), ⟨rfl, Or.inr ⟨by omega, by omega, by rw [← q], by rw [← q]; exact qx⟩⟩, fun self => by rw [hst i hi4, if_neg qx, if_pos ho]⟩
      · right
        have hno := hlow3 i (by omega)
        obtain ⟨n1, n2⟩ := Bool.or_eq_false_iff.mp hno
        exact ⟨by omega, ((-1 : Int32), jI ((i + 1 : Nat) : Int)), ⟨rfl, Or.inl ⟨rfl, by omega⟩⟩, fun self => by rw [hst i hi4, if_neg (by rw [n2]; exact Bool.noConfusion), if_neg (by rw [n1]; exact Bool.noConfusion)]⟩
  · left
    have e3 : y1 = jI (dr l (wdr M c l) : Nat) := e3
    subst e3
    have hdl := dr_lt (l := l) (t := wdr M c l)
    refine ⟨j8 (jI (dr l (wdr M c l) : Nat)), by rw [if_pos e2, if_neg e4], fun self => ?_⟩
    simp only [mX8_walks_L100]
    rw [if_pos (show (0 : Int32) ≤ jI (dr l (wdr M c l) : Nat) by rw [n0l (by omega)]; trivial)]
    split <;> rfl
theorem walks8 {vi ws : nF} (hF : 145 < F) (h : R8 s M) (hw : WF M) : ∃ z, mX8_walks F s vi ws = some z ∧ z.1 = bI (wres M).1 ∧ ∀ c, c < mN M → z.2.1 c = jI ((wres M).2 c : Nat) := by
  have hd := hw.1
  have hN := dm_le hd
  have hE : mE M < mN M := hw.2.2.2.2.1.1
  have hEs : mEs M < 4 := hw.2.2.2.2.1.2.1
  unfold mX8_walks
  simp only [jn_e]
  have h1 := lpr_fn (L := mX8_walks_L2 (mX8_walks_K21 F s ws)) (e := mX8_walks_K21 F s ws (mix 36 (fun _ => (0 : Int32)) vi)) (F := F) (fun i => (jI (i : Nat), mix i (fun _ => (0 : Int32)) vi)) 36 (by
    intro i hi self
    simp only [mX8_walks_L2, jl_36]
    rw [nle_f hi (by omega), gdi hi (by omega), jcl _ (by omega), jS, mix_S (f := fun _ => (0 : Int32))]) (by
    intro self
    simp only [mX8_walks_L2, jl_36]
    rw [nle_t (Nat.le_refl _) (by omega)]) (by omega)
  simp only [mix_0] at h1
  have h1' : lpr (mX8_walks_L2 (mX8_walks_K21 F s ws)) F ((0 : Int32), vi) = _ := h1
  rw [h1']
  simp only [mX8_walks_K21, jn_e]
  have h2 := lpr_fn (L := mX8_walks_L23 (mX8_walks_K43 F s (mix 36 (fun _ => (0 : Int32)) vi))) (e := mX8_walks_K43 F s (mix 36 (fun _ => (0 : Int32)) vi) (mix 144 (fun _ => jI ((b01 false : Nat) : Int)) ws)) (F := F) (fun i => (jI (i : Nat), mix i (fun _ => jI ((b01 false : Nat) : Int)) ws)) 144 (by
    intro i hi self
    simp only [mX8_walks_L23, jl_144]
    rw [nle_f hi (by omega), gdi hi (by omega), jcl _ (by omega), jS, nar0, mix_S (f := fun _ => jI ((b01 false : Nat) : Int))]) (by
    intro self
    simp only [mX8_walks_L23, jl_144]
    rw [nle_t (Nat.le_refl _) (by omega)]) (by omega)
  simp only [mix_0] at h2
  have h2' : lpr (mX8_walks_L23 (mX8_walks_K43 F s (mix 36 (fun _ => (0 : Int32)) vi))) F ((0 : Int32), ws) = _ := h2
  rw [h2']
  simp only [mX8_walks_K43, gl2, gl3, gn4, cl2, cl3, h.2.2.1, h.2.2.2.1, opp8 hEs]
  have key := lpr_r (Q := fun z : Int32 × nF × nF => z.1 = bI (wres M).1 ∧ ∀ c, c < mN M → z.2.1 c = jI ((wres M).2 c : Nat)) (L := mX8_walks_L61 F s) (F := F)
    (fun i y => ∃ c l W vis, y.1 = jI (c : Nat) ∧ y.2.1 = jI (l : Nat) ∧ c < mN M ∧ l < 4 ∧ (∀ c, c < mN M → y.2.2.1 c = jI (vis c : Nat)) ∧ (∀ k, k < 144 → y.2.2.2 k = jI (b01 (W k) : Nat)) ∧ wlk M (145 - i) c l W vis = wres M ∧ cntW W 144 = i) 144
    (x := (jI (mE M : Nat), jI (opp (mEs M) : Nat), mix 36 (fun _ => (0 : Int32)) vi, mix 144 (fun _ => jI ((b01 false : Nat) : Int)) ws)) (by
    intro i y hi ⟨c, l, W, vis, y1, y2, hc, hl, y5, y6, hwk, hcW⟩
    have hu : wlk M (145 - i) c l W vis = if W (4 * c + l) = true then (false, vis) else
      if wdr M c l < 4 then (if atX M c (dr l (wdr M c l)) = true then (true, set1 vis c (vis c + 1)) else wlk M (145 - (i + 1)) (nbD M c (dr l (wdr M c l))) (dr l (wdr M c l)) (set1 W (4 * c + l) true) (set1 vis c (vis c + 1)))
      else (false, set1 vis c (vis c + 1)) := by
      rw [show 145 - i = (145 - (i + 1)) + 1 by omega]; rfl
    rw [hwk] at hu
    have hstep : ∀ self, mX8_walks_L61 F s self y = if W (4 * c + l) = true then some ((0 : Int32), y.2.2.1, y.2.2.2) else
        if wdr M c l < 4 then (if atX M c (dr l (wdr M c l)) = true then some ((1 : Int32), upd y.2.2.1 c (jI ((vis c + 1 : Nat) : Int)), upd y.2.2.2 (4 * c + l) (jI (b01 true : Nat))) else (mX8_besides s (jI (c : Nat)) (jI (dr l (wdr M c l) : Nat))).bind fun r12 => self (r12, jI (dr l (wdr M c l) : Nat), upd y.2.2.1 c (jI ((vis c + 1 : Nat) : Int)), upd y.2.2.2 (4 * c + l) (jI (b01 true : Nat)))) else some ((0 : Int32), upd y.2.2.1 c (jI ((vis c + 1 : Nat) : Int)), upd y.2.2.2 (4 * c + l) (jI (b01 true : Nat))) := by
      intro self
      simp only [mX8_walks_L61, y1, y2, j4m, jnA]
      rw [gdi (by omega) (by omega), jcl _ (by omega), y6 _ (by omega)]
      by_cases q : W (4 * c + l) = true
      · rw [if_neg (by rw [q]; decide), if_pos q, gz0]
      · rw [if_pos (by rw [b01_0]; simpa using q), if_neg q, gdi (by omega) (by omega), gdi (by omega) (by omega), gdi (by omega) (by omega)]
        simp only [jn_e]
        rw [walks_in8 (by omega) h hw hc hl y1 y2, y5 c hc, jS, nar1]
        by_cases q2 : wdr M c l < 4
        · have hdl := dr_lt (l := l) (t := wdr M c l)
          rw [if_pos q2, if_pos q2]
          by_cases q3 : atX M c (dr l (wdr M c l)) = true
          · rw [if_pos q3, if_pos q3]
          · rw [if_neg q3, if_neg q3]
            simp only [mX8_walks_K200, y1, y2, j4m, jnA, jcl c (show c < 2147483648 by omega), jcl (4 * c + l) (show 4 * c + l < 2147483648 by omega), y5 c hc, jS, nar1]
            rw [if_pos (show (0 : Int32) ≤ jI (dr l (wdr M c l) : Nat) by rw [n0l (by omega)]; trivial)]
        · rw [if_neg q2, if_neg q2]
          simp only [mX8_walks_K200, y1, y2, j4m, jnA, jcl c (show c < 2147483648 by omega), jcl (4 * c + l) (show 4 * c + l < 2147483648 by omega), y5 c hc, jS, nar1]
          rw [if_neg (by decide), gz0]
    by_cases q : W (4 * c + l) = true
    · left
      rw [if_pos q] at hu
      refine ⟨((0 : Int32), y.2.2.1, y.2.2.2), ⟨by rw [hu]; rfl, by rw [hu]; exact y5⟩, fun self => by rw [hstep, if_pos q]⟩
    · rw [if_neg q] at hu
      have hi144 : i < 144 := by
        apply Classical.byContradiction
        intro z
        have : i = 144 := by omega
        exact q (cntW_full 144 (by omega) (4 * c + l) (by omega))
      have hvis : ∀ c', c' < mN M → upd y.2.2.1 c (jI ((vis c + 1 : Nat) : Int)) c' = jI (set1 vis c (vis c + 1) c' : Nat) := by
        intro c' hc'
        by_cases e : c' = c
        · subst e; rw [upd_s, set1_s]
        · rw [upd_n e, set1_n e]; exact y5 c' hc'
      by_cases q2 : wdr M c l < 4
      · rw [if_pos q2] at hu
        by_cases q3 : atX M c (dr l (wdr M c l)) = true
        · left
          rw [if_pos q3] at hu
          exact ⟨((1 : Int32), upd y.2.2.1 c (jI ((vis c + 1 : Nat) : Int)), upd y.2.2.2 (4 * c + l) (jI (b01 true : Nat))), ⟨by rw [hu]; rfl, by rw [hu]; exact hvis⟩, fun self => by rw [hstep, if_neg q, if_pos q2, if_pos q3]⟩
        · right
          rw [if_neg q3] at hu
          obtain ⟨o, ho1, ho2⟩ := opn_t.mp (wdr_opn q2 q3)
          have hoN := (num_lt hd hc dr_lt ho1).2
          have hnb : nbD M c (dr l (wdr M c l)) = o := by unfold nbD; rw [ho1]; rfl
          rw [hnb] at hu
          refine ⟨hi144, (jI (o : Nat), jI (dr l (wdr M c l) : Nat), upd y.2.2.1 c (jI ((vis c + 1 : Nat) : Int)), upd y.2.2.2 (4 * c + l) (jI (b01 true : Nat))), ⟨o, dr l (wdr M c l), set1 W (4 * c + l) true, set1 vis c (vis c + 1), ?_⟩, fun self => by rw [hstep, if_neg q, if_pos q2, if_neg q3, besides8 h hd hc dr_lt, bnd_s, ho1]; rfl⟩
          refine ⟨rfl, rfl, hoN, dr_lt, hvis, fun k hk => ?_, hu.symm, ?_⟩
          · show upd y.2.2.2 (4 * c + l) _ k = _
            by_cases e : k = 4 * c + l
            · subst e; rw [upd_s, set1_s]
            · rw [upd_n e, set1_n e]; exact y6 k hk
          · rw [cntW_set (by simpa using q), hcW, if_pos (by omega)]
      · left
        rw [if_neg q2] at hu
        exact ⟨((0 : Int32), upd y.2.2.1 c (jI ((vis c + 1 : Nat) : Int)), upd y.2.2.2 (4 * c + l) (jI (b01 true : Nat))), ⟨by rw [hu]; rfl, by rw [hu]; exact hvis⟩, fun self => by rw [hstep, if_neg q, if_neg q2]⟩) ⟨mE M, opp (mEs M), fun _ => false, fun _ => 0, rfl, rfl, hE, opp_lt, fun c hc => by
      show mix 36 (fun _ => (0 : Int32)) vi c = jI ((0 : Nat) : Int)
      rw [mix_lt (by omega)]; rfl, fun k hk => by
      show mix 144 (fun _ => jI ((b01 false : Nat) : Int)) ws k = jI ((b01 false : Nat) : Int)
      exact mix_lt hk, rfl, by
      have : ∀ n, cntW (fun _ => false) n = 0 := by
        intro n
        induction n with
        | zero => rfl
        | succ n ih => simp only [cntW, ih]; rfl
      exact this 144⟩ (by omega)
  obtain ⟨z, z1, z2⟩ := key
  exact ⟨z, z2, z1⟩
end WL
end
section
/-! ANSWERS of what there is: walk, drawn, cellOf, doorOf, count -/
theorem j3m (k : Nat) : (3 : Int32) * jI (k : Int) = jI ((3 * k : Nat) : Int) := by rw [j_3, jI_mul]; rfl
theorem jnS {a b : Nat} (h : b ≤ a) : jI (a : Int) - jI (b : Int) = jI ((a - b : Nat) : Int) := by rw [jI_sub]; congr 1; omega
/-- how dark a cell is drawn by the walk, and how far that is from its tone -/
def wdk (M : Mz) (c : Nat) : Nat := if 9 < 3 * (wres M).2 c then 9 else 3 * (wres M).2 c
def wft (M : Mz) (c : Nat) : Nat := if wdk M c ≤ mT M c then mT M c - wdk M c else wdk M c - mT M c
theorem wft_le {M : Mz} {c : Nat} (h : mT M c ≤ 9) : wft M c ≤ 9 := by
  unfold wft wdk
  split <;> split <;> omega
section AN
variable {v : MZ} {w w1 w2 w3 : WY} {wk : WK} {s : nF} {M : Mz} {c d F n i r x l : Nat} {a b : Int}
theorem faultOn3 (hF : 144 < F) (h : R3 v M) (hw : WF M) {z : WK} (hz : ∀ c, c < mN M → z.2.2.1 c = jI ((wres M).2 c : Nat)) (hzb : ∀ c, (wres M).2 c ≤ 145) : mX5_faultOn F z v = some (jI (sN (wft M) (mN M) : Nat)) := by
  have hN := dm_le hw.1
  unfold mX5_faultOn
  have := lpr_fn (L := mX5_faultOn_L4 z v) (e := some (jI (sN (wft M) (mN M) : Nat))) (F := F) (fun i => (jI (sN (wft M) i : Nat), jI (i : Nat))) (mN M) (by
    intro i hi self
    have hb := hzb i
    have ht := hw.2.1 i hi
    simp only [mX5_faultOn_L4, cells3 h, bnd_s]
    rw [nle_f hi (by omega), at_i (by omega) (by omega), bnd_s, at_i (by omega) (by omega), bnd_s, hz i hi, h.2.2.1 i hi, jS]
    have e1 : (if (9 : Int32) < (3 : Int32) * jI ((wres M).2 i : Nat) then (9 : Int32) else (3 : Int32) * jI ((wres M).2 i : Nat)) = jI (wdk M i : Nat) := by
      rw [j3m, jl_9]
      unfold wdk
      by_cases q : 9 < 3 * (wres M).2 i
      · rw [nlt_t q (by omega), if_pos q]
      · rw [nlt_f (by omega) (by omega), if_neg q]
    have hk : wdk M i ≤ 9 := by unfold wdk; split <;> omega
    rw [e1]
    have e2 : (if (0 : Int32) ≤ jI (mT M i : Nat) - jI (wdk M i : Nat) then jI (mT M i : Nat) - jI (wdk M i : Nat) else 0 - (jI (mT M i : Nat) - jI (wdk M i : Nat))) = jI (wft M i : Nat) := by
      unfold wft
      by_cases q : wdk M i ≤ mT M i
      · rw [if_pos q, jnS q, if_pos (by rw [n0l (by omega)]; trivial)]
      · rw [if_neg q, jI_sub, j_0, jle_f (by omega) (by omega) (by omega), jI_sub]
        congr 1; omega
    rw [e2, jnA]; rfl) (by
    intro self
    simp only [mX5_faultOn_L4, cells3 h, bnd_s]
    rw [nle_t (Nat.le_refl _) (by omega)]) (by omega)
  rw [← this, jl_0]; rfl
theorem walkCells8 {vi : nF} (hF : 36 < F) (h : R8 s M) (hd : dm M) (hz : ∀ c, c < mN M → vi c = jI ((wres M).2 c : Nat)) : mX8_walkCells F s vi = some (jI (sN (wres M).2 (mN M) : Nat)) := by
  have hN := dm_le hd
  unfold mX8_walkCells
  have := lpr_fn (L := mX8_walkCells_L4 s vi) (e := some (jI (sN (wres M).2 (mN M) : Nat))) (F := F) (fun i => (jI (sN (wres M).2 i : Nat), jI (i : Nat))) (mN M) (by
    intro i hi self
    simp only [mX8_walkCells_L4, cells8 h, bnd_s]
    rw [nle_f hi (by omega), gdi (by omega) (by omega), jcl _ (by omega), hz i hi, jS, jnA]; rfl) (by
    intro self
    simp only [mX8_walkCells_L4, cells8 h, bnd_s]
    rw [nle_t (Nat.le_refl _) (by omega)]) (by omega)
  rw [← this, jl_0]; rfl
theorem walkFault8 {vi : nF} (hF : 36 < F) (h : R8 s M) (hw : WF M) (hz : ∀ c, c < mN M → vi c = jI ((wres M).2 c : Nat)) (hzb : ∀ c, (wres M).2 c ≤ 145) : mX8_walkFault F s vi = some (jI (sN (wft M) (mN M) : Nat)) := by
  have hN := dm_le hw.1
  unfold mX8_walkFault
  have := lpr_fn (L := mX8_walkFault_L4 s vi) (e := some (jI (sN (wft M) (mN M) : Nat))) (F := F) (fun i => (jI (sN (wft M) i : Nat), jI (i : Nat))) (mN M) (by
    intro i hi self
    have hb := hzb i
    have ht := hw.2.1 i hi
    have hk : wdk M i ≤ 9 := by unfold wdk; split <;> omega
    simp only [mX8_walkFault_L4, cells8 h, bnd_s, jn_e]
    rw [nle_f hi (by omega), gdi (by omega) (by omega), jcl _ (by omega), hz i hi, j3m, j6p, jcl _ (by omega), h.2.2.2.2.2.2.1 i hi, jS]
    simp only [gdi (show 6 + i < 114 by omega) (show 114 < 100000 by omega), gdi (show i < 36 by omega) (show 36 < 100000 by omega)]
    have hfin : ∀ x4 : Int32, x4 = jI (wdk M i : Nat) → (if x4 ≤ jI (mT M i : Nat) then self (jI (sN (wft M) i : Nat) + (jI (mT M i : Nat) - x4), jI ((i + 1 : Nat) : Int)) else self (jI (sN (wft M) i : Nat) + (x4 - jI (mT M i : Nat)), jI ((i + 1 : Nat) : Int))) = self (jI (sN (wft M) (i + 1) : Nat), jI ((i + 1 : Nat) : Int)) := by
      intro x4 hx
      subst hx
      have hS : sN (wft M) (i + 1) = sN (wft M) i + wft M i := rfl
      rw [hS]
      unfold wft
      by_cases q : wdk M i ≤ mT M i
      · rw [nle_t q (by omega), if_pos q, jnS q, jnA]
      · rw [nle_f (by omega) (by omega), if_neg q, jnS (by omega), jnA]
    rw [jl_9]
    by_cases q : 9 < 3 * (wres M).2 i
    · rw [nle_f q (by omega)]
      exact hfin _ (by unfold wdk; rw [if_pos q])
    · rw [nle_t (by omega) (by omega)]
      exact hfin _ (by unfold wdk; rw [if_neg q])) (by
    intro self
    simp only [mX8_walkFault_L4, cells8 h, bnd_s]
    rw [nle_t (Nat.le_refl _) (by omega)]) (by omega)
  rw [← this, jl_0]; rfl
theorem jne {k : Int} (ha : -2147483648 ≤ a ∧ a < 2147483648) (hk : -2147483648 ≤ k ∧ k < 2147483648) (h : a ≠ k) : ¬ (jI a = jI k) := by rw [jeq ha hk]; exact h
/-- what drawn answers -/
noncomputable def drawnA (M : Mz) (a : Int) : Int := if a = 0 then (if dst (mC M) (mO M) (mX M) (mE M) < 0 then -4 else dst (mC M) (mO M) (mX M) (mE M) + 1) else if a = 1 then faultI M (mX M) else if a = 2 then (if (wres M).1 = true then (sN (wres M).2 (mN M) : Int) else -4) else if a = 3 then (if (wres M).1 = true then (sN (wft M) (mN M) : Int) else -4) else if a = 4 then (if dst (mC M) (mO M) (mX M) (mE M) < 0 then -4 else (turnsOf (wy (mC M) (mO M) (mX M) (mE M)) : Int)) else -1
theorem drawn3 (hF : 145 < F) (h : R3 v M) (hw : WF M) (ha : -2147483648 ≤ a ∧ a < 2147483648) : ∃ z, mX7_drawn F v w wk (jI a) = some (jI (drawnA M a), z) := by
  have hw2 := hw.w2
  have hN := dm_le hw.1
  have hE : mE M < mN M := hw.2.2.2.2.1.1
  have hX : mX M < mN M := hw.2.2.2.2.2.1.1
  obtain ⟨w', q1, q2⟩ := hasWay3 (w := w) (F := F) (by omega) h hw2 hX hE
  obtain ⟨w'', q3⟩ := wayFault3 (w := w) (F := F) (by omega) h hw2 hX hE
  obtain ⟨z, z1, z2, z3, z4, z5⟩ := take3 (wk := wk) (F := F) (by omega) h hw
  unfold mX7_drawn
  have hk : a = 0 ∨ a = 1 ∨ a = 2 ∨ a = 3 ∨ a = 4 ∨ (a ≠ 0 ∧ a ≠ 1 ∧ a ≠ 2 ∧ a ≠ 3 ∧ a ≠ 4) := by omega
  rcases hk with rfl | rfl | rfl | rfl | rfl | ⟨n0, n1, n2, n3, n4⟩
  · rw [if_pos (show jI 0 = (0 : Int32) by decide)]
    rw [q1, bnd_s]
    simp only [jn_e, ifb]
    by_cases e : 0 ≤ dst (mC M) (mO M) (mX M) (mE M)
    · rw [if_pos (decide_eq_true e)]
      rw [entry3 h, bnd_s, wq_len hw2 hX hE q2, bnd_s, j_1, jI_add]
      refine ⟨(w', wk), ?_⟩
      unfold drawnA
      rw [if_pos rfl, if_neg (by omega)]
    · rw [if_neg (by rw [decide_eq_false e]; exact Bool.noConfusion)]
      refine ⟨(w', wk), ?_⟩
      unfold drawnA
      rw [if_pos rfl, if_pos (by omega)]
      rfl
  · rw [if_neg (show ¬ (jI 1 = (0 : Int32)) by decide), if_pos (show jI 1 = (1 : Int32) by decide)]
    rw [q3, bnd_s]
    exact ⟨_, rfl⟩
  · rw [if_neg (show ¬ (jI 2 = (0 : Int32)) by decide), if_neg (show ¬ (jI 2 = (1 : Int32)) by decide), if_pos (show jI 2 = (2 : Int32) by decide)]
    rw [z1, bnd_s]
    simp only [jn_e, z2, ifb]
    unfold drawnA
    rw [if_neg (show ¬ ((2 : Int) = 0) by omega), if_neg (show ¬ ((2 : Int) = 1) by omega), if_pos (show (2 : Int) = 2 from rfl)]
    cases hr : (wres M).1
    · exact ⟨_, rfl⟩
    · simp only [Bool.not_true, if_neg (show ¬ (false = true) from Bool.noConfusion), if_true]
      rw [z3]
      exact ⟨_, rfl⟩
  · rw [if_neg (show ¬ (jI 3 = (0 : Int32)) by decide), if_neg (show ¬ (jI 3 = (1 : Int32)) by decide), if_neg (show ¬ (jI 3 = (2 : Int32)) by decide), if_pos (show jI 3 = (3 : Int32) by decide)]
    rw [z1, bnd_s]
    simp only [jn_e, z2, ifb]
    unfold drawnA
    rw [if_neg (show ¬ ((3 : Int) = 0) by omega), if_neg (show ¬ ((3 : Int) = 1) by omega), if_neg (show ¬ ((3 : Int) = 2) by omega), if_pos (show (3 : Int) = 3 from rfl)]
    cases hr : (wres M).1
    · exact ⟨_, rfl⟩
    · simp only [Bool.not_true, if_neg (show ¬ (false = true) from Bool.noConfusion), if_true]
      rw [faultOn3 (by omega) h hw z4 z5, bnd_s]
      exact ⟨_, rfl⟩
  · rw [if_neg (show ¬ (jI 4 = (0 : Int32)) by decide), if_neg (show ¬ (jI 4 = (1 : Int32)) by decide), if_neg (show ¬ (jI 4 = (2 : Int32)) by decide), if_neg (show ¬ (jI 4 = (3 : Int32)) by decide), if_pos (show jI 4 = (4 : Int32) by decide)]
    rw [q1, bnd_s]
    simp only [jn_e, ifb]
    by_cases e : 0 ≤ dst (mC M) (mO M) (mX M) (mE M)
    · rw [if_pos (decide_eq_true e)]
      rw [wayTurns3 (by omega) h hw2 hX hE q2 (dst_c.mp e), bnd_s]
      refine ⟨(w', wk), ?_⟩
      unfold drawnA
      rw [if_neg (by omega), if_neg (by omega), if_neg (by omega), if_neg (by omega), if_pos rfl, if_neg (by omega)]
    · rw [if_neg (by rw [decide_eq_false e]; exact Bool.noConfusion)]
      refine ⟨(w', wk), ?_⟩
      unfold drawnA
      rw [if_neg (by omega), if_neg (by omega), if_neg (by omega), if_neg (by omega), if_pos rfl, if_pos (by omega)]
      rfl
  · rw [j_0, if_neg (jne ha (by omega) n0), j_1, if_neg (jne ha (by omega) n1), j_2, if_neg (jne ha (by omega) n2), j_3, if_neg (jne ha (by omega) n3), j_4, if_neg (jne ha (by omega) n4)]
    unfold drawnA
    rw [if_neg n0, if_neg n1, if_neg n2, if_neg n3, if_neg n4]
    exact ⟨_, rfl⟩
theorem drawn8 {f0 q0 o0 st0 vi ws : nF} {wc tu : Int32} (hF : 145 < F) (h : R8 s M) (hw : WF M) (hzb : ∀ c, (wres M).2 c ≤ 145) (ha : -2147483648 ≤ a ∧ a < 2147483648) : ∃ z, mX8_drawn F s f0 q0 o0 st0 wc tu vi ws (jI a) = some (jI (drawnA M a), z) := by
  have hw2 := hw.w2
  have hN := dm_le hw.1
  have hE : mE M < mN M := hw.2.2.2.2.1.1
  have hX : mX M < mN M := hw.2.2.2.2.2.1.1
  obtain ⟨y, y1, y2, y3, y4, y5, y6⟩ := findsWay8 (f0 := f0) (q0 := q0) (o0 := o0) (st0 := st0) (wc := wc) (tu := tu) (F := F) (by omega) h hw2 hX hE
  obtain ⟨u, u1, u2⟩ := wayFault8 (f0 := f0) (q0 := q0) (o0 := o0) (st0 := st0) (wc := wc) (tu := tu) (F := F) (by omega) h hw2 hX hE
  obtain ⟨z, z1, z2, z3⟩ := walks8 (vi := vi) (ws := ws) (F := F) (by omega) h hw
  have hdl : ((wy (mC M) (mO M) (mX M) (mE M)).length : Int) = dst (mC M) (mO M) (mX M) (mE M) + 1 := by unfold dst; omega
  unfold mX8_drawn
  have hk : a = 0 ∨ a = 1 ∨ a = 2 ∨ a = 3 ∨ a = 4 ∨ (a ≠ 0 ∧ a ≠ 1 ∧ a ≠ 2 ∧ a ≠ 3 ∧ a ≠ 4) := by omega
  rcases hk with rfl | rfl | rfl | rfl | rfl | ⟨n0, n1, n2, n3, n4⟩
  · rw [if_pos (show jI 0 = (0 : Int32) by decide)]
    rw [gl4, cl4, h.2.2.2.2.1, y1, bnd_s]
    simp only [jn_e, y2, ifb]
    have eA : drawnA M 0 = if dst (mC M) (mO M) (mX M) (mE M) < 0 then -4 else dst (mC M) (mO M) (mX M) (mE M) + 1 := rfl
    rw [eA]
    by_cases e : 0 ≤ dst (mC M) (mO M) (mX M) (mE M)
    · rw [if_pos (decide_eq_true e), if_neg (show ¬ dst (mC M) (mO M) (mX M) (mE M) < 0 by omega), y5, hdl]
      exact ⟨_, rfl⟩
    · rw [if_neg (show ¬ (decide (0 ≤ dst (mC M) (mO M) (mX M) (mE M)) = true) by rw [decide_eq_false e]; exact Bool.noConfusion), if_pos (show dst (mC M) (mO M) (mX M) (mE M) < 0 by omega)]
      exact ⟨_, rfl⟩
  · rw [if_neg (show ¬ (jI 1 = (0 : Int32)) by decide), if_pos (show jI 1 = (1 : Int32) by decide)]
    rw [u1, bnd_s, u2]
    exact ⟨_, rfl⟩
  · rw [if_neg (show ¬ (jI 2 = (0 : Int32)) by decide), if_neg (show ¬ (jI 2 = (1 : Int32)) by decide), if_pos (show jI 2 = (2 : Int32) by decide)]
    rw [z1, bnd_s]
    simp only [jn_e, z2, ifb]
    unfold drawnA
    rw [if_neg (show ¬ ((2 : Int) = 0) by omega), if_neg (show ¬ ((2 : Int) = 1) by omega), if_pos (show (2 : Int) = 2 from rfl)]
    cases hr : (wres M).1
    · exact ⟨_, rfl⟩
    · simp only [if_true]
      rw [walkCells8 (by omega) h hw.1 z3, bnd_s]
      exact ⟨_, rfl⟩
  · rw [if_neg (show ¬ (jI 3 = (0 : Int32)) by decide), if_neg (show ¬ (jI 3 = (1 : Int32)) by decide), if_neg (show ¬ (jI 3 = (2 : Int32)) by decide), if_pos (show jI 3 = (3 : Int32) by decide)]
    rw [z1, bnd_s]
    simp only [jn_e, z2, ifb]
    unfold drawnA
    rw [if_neg (show ¬ ((3 : Int) = 0) by omega), if_neg (show ¬ ((3 : Int) = 1) by omega), if_neg (show ¬ ((3 : Int) = 2) by omega), if_pos (show (3 : Int) = 3 from rfl)]
    cases hr : (wres M).1
    · exact ⟨_, rfl⟩
    · simp only [if_true]
      rw [walkFault8 (by omega) h hw z3 hzb, bnd_s]
      exact ⟨_, rfl⟩
  · rw [if_neg (show ¬ (jI 4 = (0 : Int32)) by decide), if_neg (show ¬ (jI 4 = (1 : Int32)) by decide), if_neg (show ¬ (jI 4 = (2 : Int32)) by decide), if_neg (show ¬ (jI 4 = (3 : Int32)) by decide), if_pos (show jI 4 = (4 : Int32) by decide)]
    rw [gl4, cl4, h.2.2.2.2.1, y1, bnd_s]
    simp only [jn_e, y2, ifb]
    have eA : drawnA M 4 = if dst (mC M) (mO M) (mX M) (mE M) < 0 then -4 else (turnsOf (wy (mC M) (mO M) (mX M) (mE M)) : Int) := rfl
    rw [eA]
    by_cases e : 0 ≤ dst (mC M) (mO M) (mX M) (mE M)
    · rw [if_pos (decide_eq_true e), if_neg (show ¬ dst (mC M) (mO M) (mX M) (mE M) < 0 by omega), y6]
      exact ⟨_, rfl⟩
    · rw [if_neg (show ¬ (decide (0 ≤ dst (mC M) (mO M) (mX M) (mE M)) = true) by rw [decide_eq_false e]; exact Bool.noConfusion), if_pos (show dst (mC M) (mO M) (mX M) (mE M) < 0 by omega)]
      exact ⟨_, rfl⟩
  · rw [j_0, if_neg (jne ha (by omega) n0), j_1, if_neg (jne ha (by omega) n1), j_2, if_neg (jne ha (by omega) n2), j_3, if_neg (jne ha (by omega) n3), j_4, if_neg (jne ha (by omega) n4)]
    unfold drawnA
    rw [if_neg n0, if_neg n1, if_neg n2, if_neg n3, if_neg n4]
    exact ⟨_, rfl⟩
def countA (M : Mz) (n L : Nat) (k : Bool) (a : Int) : Int := if a = 0 then (mC M : Int) else if a = 1 then (mR M : Int) else if a = 2 then (cnt (mO M) (2 * mN M) : Int) else if a = 3 then partI M else if a = 4 then (b01 (decide (partI M = 1)) : Int) else if a = 5 then (endN M : Int) else if a = 6 then (toneS M : Int) else if a = 7 then (n : Int) else if a = 8 then (L : Int) else if a = 9 then (b01 k : Int) else -1
theorem count3 {hs : HS} {pt : PT} {kb : Bool} {L : Nat} (hF : 145 < F) (h : R3 v M) (hw : WF M) (hh : hs.1 = jI (n : Nat)) (hp : pt.1 = jI (L : Nat)) (ha : -2147483648 ≤ a ∧ a < 2147483648) : mX7_count F (bI kb) v hs pt (jI a) = some (jI (countA M n L kb a)) := by
  have hN := dm_le hw.1
  unfold mX7_count
  have hk : a = 0 ∨ a = 1 ∨ a = 2 ∨ a = 3 ∨ a = 4 ∨ a = 5 ∨ a = 6 ∨ a = 7 ∨ a = 8 ∨ a = 9 ∨ (a ≠ 0 ∧ a ≠ 1 ∧ a ≠ 2 ∧ a ≠ 3 ∧ a ≠ 4 ∧ a ≠ 5 ∧ a ≠ 6 ∧ a ≠ 7 ∧ a ≠ 8 ∧ a ≠ 9) := by omega
  rcases hk with rfl | rfl | rfl | rfl | rfl | rfl | rfl | rfl | rfl | rfl | ⟨n0, n1, n2, n3, n4, n5, n6, n7, n8, n9⟩
  · rw [if_pos (show jI 0 = (0 : Int32) by decide)]
    rw [h.1]; rfl
  · rw [if_neg (show ¬ (jI 1 = (0 : Int32)) by decide), if_pos (show jI 1 = (1 : Int32) by decide)]
    rw [h.2.1]; rfl
  · rw [if_neg (show ¬ (jI 2 = (0 : Int32)) by decide), if_neg (show ¬ (jI 2 = (1 : Int32)) by decide), if_pos (show jI 2 = (2 : Int32) by decide)]
    rw [passageCount3 (by omega) h hw.1 hw.2.2.1, bnd_s]; rfl
  · rw [if_neg (show ¬ (jI 3 = (0 : Int32)) by decide), if_neg (show ¬ (jI 3 = (1 : Int32)) by decide), if_neg (show ¬ (jI 3 = (2 : Int32)) by decide), if_pos (show jI 3 = (3 : Int32) by decide)]
    rw [parts3 (by omega) h hw.1 hw.2.2.1, bnd_s]; rfl
  · rw [if_neg (show ¬ (jI 4 = (0 : Int32)) by decide), if_neg (show ¬ (jI 4 = (1 : Int32)) by decide), if_neg (show ¬ (jI 4 = (2 : Int32)) by decide), if_neg (show ¬ (jI 4 = (3 : Int32)) by decide), if_pos (show jI 4 = (4 : Int32) by decide)]
    rw [isWhole3 (by omega) h hw.1 hw.2.2.1, bnd_s]
    simp only [jn_e, ifb]
    show _ = some (jI (b01 (decide (partI M = 1)) : Int))
    cases decide (partI M = 1) <;> rfl
  · rw [if_neg (show ¬ (jI 5 = (0 : Int32)) by decide), if_neg (show ¬ (jI 5 = (1 : Int32)) by decide), if_neg (show ¬ (jI 5 = (2 : Int32)) by decide), if_neg (show ¬ (jI 5 = (3 : Int32)) by decide), if_neg (show ¬ (jI 5 = (4 : Int32)) by decide), if_pos (show jI 5 = (5 : Int32) by decide)]
    rw [deadEnds3 (by omega) h hw.1, bnd_s]; rfl
  · rw [if_neg (show ¬ (jI 6 = (0 : Int32)) by decide), if_neg (show ¬ (jI 6 = (1 : Int32)) by decide), if_neg (show ¬ (jI 6 = (2 : Int32)) by decide), if_neg (show ¬ (jI 6 = (3 : Int32)) by decide), if_neg (show ¬ (jI 6 = (4 : Int32)) by decide), if_neg (show ¬ (jI 6 = (5 : Int32)) by decide), if_pos (show jI 6 = (6 : Int32) by decide)]
    rw [toneSum3 (by omega) h hw.1, bnd_s]; rfl
  · rw [if_neg (show ¬ (jI 7 = (0 : Int32)) by decide), if_neg (show ¬ (jI 7 = (1 : Int32)) by decide), if_neg (show ¬ (jI 7 = (2 : Int32)) by decide), if_neg (show ¬ (jI 7 = (3 : Int32)) by decide), if_neg (show ¬ (jI 7 = (4 : Int32)) by decide), if_neg (show ¬ (jI 7 = (5 : Int32)) by decide), if_neg (show ¬ (jI 7 = (6 : Int32)) by decide), if_pos (show jI 7 = (7 : Int32) by decide)]
    rw [hh]; rfl
  · rw [if_neg (show ¬ (jI 8 = (0 : Int32)) by decide), if_neg (show ¬ (jI 8 = (1 : Int32)) by decide), if_neg (show ¬ (jI 8 = (2 : Int32)) by decide), if_neg (show ¬ (jI 8 = (3 : Int32)) by decide), if_neg (show ¬ (jI 8 = (4 : Int32)) by decide), if_neg (show ¬ (jI 8 = (5 : Int32)) by decide), if_neg (show ¬ (jI 8 = (6 : Int32)) by decide), if_neg (show ¬ (jI 8 = (7 : Int32)) by decide), if_pos (show jI 8 = (8 : Int32) by decide)]
    rw [hp]; rfl
  · rw [if_neg (show ¬ (jI 9 = (0 : Int32)) by decide), if_neg (show ¬ (jI 9 = (1 : Int32)) by decide), if_neg (show ¬ (jI 9 = (2 : Int32)) by decide), if_neg (show ¬ (jI 9 = (3 : Int32)) by decide), if_neg (show ¬ (jI 9 = (4 : Int32)) by decide), if_neg (show ¬ (jI 9 = (5 : Int32)) by decide), if_neg (show ¬ (jI 9 = (6 : Int32)) by decide), if_neg (show ¬ (jI 9 = (7 : Int32)) by decide), if_neg (show ¬ (jI 9 = (8 : Int32)) by decide), if_pos (show jI 9 = (9 : Int32) by decide)]
    simp only [jn_e, ifb]
    show _ = some (jI (b01 kb : Int))
    cases kb <;> rfl
  · rw [j_0, if_neg (jne ha (by omega) n0), j_1, if_neg (jne ha (by omega) n1), j_2, if_neg (jne ha (by omega) n2), j_3, if_neg (jne ha (by omega) n3), j_4, if_neg (jne ha (by omega) n4), j_5, if_neg (jne ha (by omega) n5), j_6, if_neg (jne ha (by omega) n6), j_7, if_neg (jne ha (by omega) n7), j_8, if_neg (jne ha (by omega) n8), j_9, if_neg (jne ha (by omega) n9)]
    unfold countA
    rw [if_neg n0, if_neg n1, if_neg n2, if_neg n3, if_neg n4, if_neg n5, if_neg n6, if_neg n7, if_neg n8, if_neg n9]
    rfl
theorem count8 {kb : Bool} {L : Nat} (hF : 145 < F) (h : R8 s M) (hw : WF M) (ha : -2147483648 ≤ a ∧ a < 2147483648) : mX8_count F s (bI kb) (jI (n : Nat)) (jI (L : Nat)) (jI a) = some (jI (countA M n L kb a)) := by
  have hN := dm_le hw.1
  unfold mX8_count
  have hk : a = 0 ∨ a = 1 ∨ a = 2 ∨ a = 3 ∨ a = 4 ∨ a = 5 ∨ a = 6 ∨ a = 7 ∨ a = 8 ∨ (a ≠ 0 ∧ a ≠ 1 ∧ a ≠ 2 ∧ a ≠ 3 ∧ a ≠ 4 ∧ a ≠ 5 ∧ a ≠ 6 ∧ a ≠ 7 ∧ a ≠ 8) := by omega
  rcases hk with rfl | rfl | rfl | rfl | rfl | rfl | rfl | rfl | rfl | ⟨n0, n1, n2, n3, n4, n5, n6, n7, n8⟩
  · rw [if_pos (show jI 0 = (0 : Int32) by decide)]
    rw [show jI 0 = jI ((0 : Nat) : Int) from rfl, gdi (by omega) (by omega), jcl 0 (by omega), h.1]; rfl
  · rw [if_neg (show ¬ (jI 1 = (0 : Int32)) by decide), if_pos (show jI 1 = (1 : Int32) by decide)]
    rw [show jI 1 = jI ((1 : Nat) : Int) from rfl, gdi (by omega) (by omega), jcl 1 (by omega), h.2.1]; rfl
  · rw [if_neg (show ¬ (jI 2 = (0 : Int32)) by decide), if_neg (show ¬ (jI 2 = (1 : Int32)) by decide), if_pos (show jI 2 = (2 : Int32) by decide)]
    rw [passages8 (by omega) h hw.1, bnd_s]; rfl
  · rw [if_neg (show ¬ (jI 3 = (0 : Int32)) by decide), if_neg (show ¬ (jI 3 = (1 : Int32)) by decide), if_neg (show ¬ (jI 3 = (2 : Int32)) by decide), if_pos (show jI 3 = (3 : Int32) by decide)]
    rw [parts8 (by omega) h hw.1, bnd_s]; rfl
  · rw [if_neg (show ¬ (jI 4 = (0 : Int32)) by decide), if_neg (show ¬ (jI 4 = (1 : Int32)) by decide), if_neg (show ¬ (jI 4 = (2 : Int32)) by decide), if_neg (show ¬ (jI 4 = (3 : Int32)) by decide), if_pos (show jI 4 = (4 : Int32) by decide)]
    rw [isWhole8 (by omega) h hw.1, bnd_s]
    simp only [jn_e, ifb]
    show _ = some (jI (b01 (decide (partI M = 1)) : Int))
    cases decide (partI M = 1) <;> rfl
  · rw [if_neg (show ¬ (jI 5 = (0 : Int32)) by decide), if_neg (show ¬ (jI 5 = (1 : Int32)) by decide), if_neg (show ¬ (jI 5 = (2 : Int32)) by decide), if_neg (show ¬ (jI 5 = (3 : Int32)) by decide), if_neg (show ¬ (jI 5 = (4 : Int32)) by decide), if_pos (show jI 5 = (5 : Int32) by decide)]
    rw [ends8 (by omega) h hw.1, bnd_s]; rfl
  · rw [if_neg (show ¬ (jI 6 = (0 : Int32)) by decide), if_neg (show ¬ (jI 6 = (1 : Int32)) by decide), if_neg (show ¬ (jI 6 = (2 : Int32)) by decide), if_neg (show ¬ (jI 6 = (3 : Int32)) by decide), if_neg (show ¬ (jI 6 = (4 : Int32)) by decide), if_neg (show ¬ (jI 6 = (5 : Int32)) by decide), if_pos (show jI 6 = (6 : Int32) by decide)]
    rw [tones8 (by omega) h hw.1, bnd_s]; rfl
  · rw [if_neg (show ¬ (jI 7 = (0 : Int32)) by decide), if_neg (show ¬ (jI 7 = (1 : Int32)) by decide), if_neg (show ¬ (jI 7 = (2 : Int32)) by decide), if_neg (show ¬ (jI 7 = (3 : Int32)) by decide), if_neg (show ¬ (jI 7 = (4 : Int32)) by decide), if_neg (show ¬ (jI 7 = (5 : Int32)) by decide), if_neg (show ¬ (jI 7 = (6 : Int32)) by decide), if_pos (show jI 7 = (7 : Int32) by decide)]
    rfl
  · rw [if_neg (show ¬ (jI 8 = (0 : Int32)) by decide), if_neg (show ¬ (jI 8 = (1 : Int32)) by decide), if_neg (show ¬ (jI 8 = (2 : Int32)) by decide), if_neg (show ¬ (jI 8 = (3 : Int32)) by decide), if_neg (show ¬ (jI 8 = (4 : Int32)) by decide), if_neg (show ¬ (jI 8 = (5 : Int32)) by decide), if_neg (show ¬ (jI 8 = (6 : Int32)) by decide), if_neg (show ¬ (jI 8 = (7 : Int32)) by decide), if_pos (show jI 8 = (8 : Int32) by decide)]
    rfl
  · rw [j_0, if_neg (jne ha (by omega) n0), j_1, if_neg (jne ha (by omega) n1), j_2, if_neg (jne ha (by omega) n2), j_3, if_neg (jne ha (by omega) n3), j_4, if_neg (jne ha (by omega) n4), j_5, if_neg (jne ha (by omega) n5), j_6, if_neg (jne ha (by omega) n6), j_7, if_neg (jne ha (by omega) n7), j_8, if_neg (jne ha (by omega) n8)]
    simp only [jn_e, ifb]
    unfold countA
    rw [if_neg n0, if_neg n1, if_neg n2, if_neg n3, if_neg n4, if_neg n5, if_neg n6, if_neg n7, if_neg n8]
    by_cases n9 : a = 9
    · rw [if_pos n9, if_pos (show jI a = (9 : Int32) by rw [n9]; decide)]
      cases kb <;> rfl
    · rw [if_neg n9, j_9, if_neg (jne ha (by omega) n9)]
      rfl
/-- what doorOf answers -/
def doorA (M : Mz) (a b : Int) : Int := if 0 ≤ a ∧ a < 2 ∧ 0 ≤ b ∧ b < 2 then (if a = 0 then (if b = 0 then (mE M : Int) else (mEs M : Int)) else (if b = 0 then (mX M : Int) else (mXs M : Int))) else -1
theorem doorOf3 (h : R3 v M) (ha : -2147483648 ≤ a ∧ a < 2147483648) (hb : -2147483648 ≤ b ∧ b < 2147483648) : mX7_doorOf v (jI a) (jI b) = some (jI (doorA M a b)) := by
  unfold mX7_doorOf doorA
  rw [isDoor3 ha, bnd_s, ifb]
  by_cases e : 0 ≤ a ∧ a < 2
  · rw [if_pos (decide_eq_true e)]
    have hA : ∀ f : nF, mX7_at 2 f (jI a) = some (f a.toNat) := by
      intro f
      have : a = ((a.toNat : Nat) : Int) := by omega
      rw [this, at_i (by omega) (by omega)]
      rfl
    have ha2 : a = 0 ∨ a = 1 := by omega
    by_cases q : b = 0
    · rw [j_0, jeq_t q, if_pos (by omega), hA, bnd_s]
      rcases ha2 with rfl | rfl
      · rw [if_pos rfl, if_pos q]; exact congrArg some h.2.2.2.2.1
      · rw [if_neg (by omega), if_pos q]; exact congrArg some h.2.2.2.2.2.1
    · rw [j_0, jeq_f hb (by omega) q]
      by_cases q1 : b = 1
      · rw [j_1, jeq_t q1, if_pos (by omega), hA, bnd_s]
        rcases ha2 with rfl | rfl
        · rw [if_pos rfl, if_neg q]; exact congrArg some h.2.2.2.2.2.2.1
        · rw [if_neg (by omega), if_neg q]; exact congrArg some h.2.2.2.2.2.2.2
      · rw [j_1, jeq_f hb (by omega) q1, if_neg (by omega)]; rfl
  · rw [if_neg (by rw [decide_eq_false e]; exact Bool.noConfusion), if_neg (by omega)]; rfl
theorem doorOf8 (h : R8 s M) (ha : -2147483648 ≤ a ∧ a < 2147483648) (hb : -2147483648 ≤ b ∧ b < 2147483648) : mX8_doorOf s (jI a) (jI b) = some (jI (doorA M a b)) := by
  unfold mX8_doorOf doorA
  rw [j_0, j_1, in8 ha (by omega) (by omega), bnd_s]
  simp only [jn_e, ← j_0, ifb]
  by_cases e : 0 ≤ a ∧ a ≤ 1
  · rw [if_pos (decide_eq_true e), j_0, in8 hb (by omega) (by omega), bnd_s, ← j_0, ifb]
    by_cases q : 0 ≤ b ∧ b ≤ 1
    · rw [if_pos (decide_eq_true q), if_pos (by omega), j_2, jI_mul, jI_add, jI_add]
      have ha2 : a = 0 ∨ a = 1 := by omega
      have hb2 : b = 0 ∨ b = 1 := by omega
      rcases ha2 with rfl | rfl <;> rcases hb2 with rfl | rfl
      · rw [show jI (2 + 2 * 0 + 0) = jI ((2 : Nat) : Int) from rfl, gdi (by omega) (by omega), jcl 2 (by omega), h.2.2.1]; rfl
      · rw [show jI (2 + 2 * 0 + 1) = jI ((3 : Nat) : Int) from rfl, gdi (by omega) (by omega), jcl 3 (by omega), h.2.2.2.1]; rfl
      · rw [show jI (2 + 2 * 1 + 0) = jI ((4 : Nat) : Int) from rfl, gdi (by omega) (by omega), jcl 4 (by omega), h.2.2.2.2.1]; rfl
      · rw [show jI (2 + 2 * 1 + 1) = jI ((5 : Nat) : Int) from rfl, gdi (by omega) (by omega), jcl 5 (by omega), h.2.2.2.2.2.1]; rfl
    · rw [if_neg (by rw [decide_eq_false q]; exact Bool.noConfusion), if_neg (by omega)]; rfl
  · rw [if_neg (by rw [decide_eq_false e]; exact Bool.noConfusion), if_neg (by omega)]; rfl
/-- what cellOf answers of a cell -/
noncomputable def cellB (M : Mz) (p : Nat) (b : Int) : Int := if b = 0 then (mT M p : Int) else if b = 1 then (mask (mC M) (mN M) (mO M) p : Int) else if b = 2 then (lowF (joined M p) (mN M) : Int) else if b = 3 then (partN M p : Int) else if b = 4 then (if dst (mC M) (mO M) (mE M) p < 0 then -4 else dst (mC M) (mO M) (mE M) p) else if b = 5 then (b01 (decide (p ∈ wy (mC M) (mO M) (mX M) (mE M))) : Int) else if b = 6 then (if (wres M).1 = true then ((wres M).2 p : Int) else -4) else -1
noncomputable def cellA (M : Mz) (a b : Int) : Int := if 0 ≤ a ∧ a < (mN M : Int) then cellB M a.toNat b else -1
theorem cellOf3 (hF : 145 < F) (h : R3 v M) (hw : WF M) (hb : -2147483648 ≤ b ∧ b < 2147483648) (ha : -2147483648 ≤ a ∧ a < 2147483648) : ∃ z, mX7_cellOf F v w1 w2 w3 wk (jI b) (jI a) = some (jI (cellA M b a), z) := by
  have hw2 := hw.w2
  have hN := dm_le hw.1
  have hE : mE M < mN M := hw.2.2.2.2.1.1
  have hX : mX M < mN M := hw.2.2.2.2.2.1.1
  unfold mX7_cellOf cellA
  rw [hasCell3 h hw.1 hb, bnd_s, ifb]
  by_cases e : 0 ≤ b ∧ b < (mN M : Int)
  · rw [if_pos (decide_eq_true e), if_pos e]
    obtain ⟨p, rfl⟩ := Int.eq_ofNat_of_zero_le e.1
    have hp : p < mN M := by omega
    simp only [Int.toNat_natCast]
    obtain ⟨w', q1, q2⟩ := findFrom3 (w := w1) (F := F) (by omega) h hw2 hp
    obtain ⟨y, y1⟩ := between3 (w := w1) (F := F) (a := (mE M : Int)) (b := (p : Int)) (by omega) h hw2 (by omega) (by omega)
    obtain ⟨u, u1⟩ := isOnWay3 (w1 := w2) (w2 := w3) (F := F) (by omega) h hw2 hX hE hp
    obtain ⟨z, z1, z2, z3, z4, z5⟩ := take3 (wk := wk) (F := F) (by omega) h hw
    have hk : a = 0 ∨ a = 1 ∨ a = 2 ∨ a = 3 ∨ a = 4 ∨ a = 5 ∨ a = 6 ∨ (a ≠ 0 ∧ a ≠ 1 ∧ a ≠ 2 ∧ a ≠ 3 ∧ a ≠ 4 ∧ a ≠ 5 ∧ a ≠ 6) := by omega
    rcases hk with rfl | rfl | rfl | rfl | rfl | rfl | rfl | ⟨n0, n1, n2, n3, n4, n5, n6⟩
    · rw [if_pos (show jI 0 = (0 : Int32) by decide)]
      rw [at_i (by omega) (by omega), bnd_s, h.2.2.1 p hp]
      exact ⟨_, rfl⟩
    · rw [if_neg (show ¬ (jI 1 = (0 : Int32)) by decide), if_pos (show jI 1 = (1 : Int32) by decide)]
      rw [at_i (by omega) (by omega), bnd_s, h.2.2.2.1 p hp]
      exact ⟨_, rfl⟩
    · rw [if_neg (show ¬ (jI 2 = (0 : Int32)) by decide), if_neg (show ¬ (jI 2 = (1 : Int32)) by decide), if_pos (show jI 2 = (2 : Int32) by decide)]
      rw [q1, bnd_s, lowest3 (by omega) hw2 hp q2, bnd_s]
      exact ⟨_, rfl⟩
    · rw [if_neg (show ¬ (jI 3 = (0 : Int32)) by decide), if_neg (show ¬ (jI 3 = (1 : Int32)) by decide), if_neg (show ¬ (jI 3 = (2 : Int32)) by decide), if_pos (show jI 3 = (3 : Int32) by decide)]
      rw [q1, bnd_s, cells_part hw2 q2]
      exact ⟨_, rfl⟩
    · rw [if_neg (show ¬ (jI 4 = (0 : Int32)) by decide), if_neg (show ¬ (jI 4 = (1 : Int32)) by decide), if_neg (show ¬ (jI 4 = (2 : Int32)) by decide), if_neg (show ¬ (jI 4 = (3 : Int32)) by decide), if_pos (show jI 4 = (4 : Int32) by decide)]
      rw [entry3 h, bnd_s, y1, bnd_s]
      have e5 : betwA M (mE M : Int) (p : Int) = cellB M p 4 := by
        unfold betwA
        rw [if_pos (by omega)]
        rfl
      rw [e5]
      exact ⟨_, rfl⟩
    · rw [if_neg (show ¬ (jI 5 = (0 : Int32)) by decide), if_neg (show ¬ (jI 5 = (1 : Int32)) by decide), if_neg (show ¬ (jI 5 = (2 : Int32)) by decide), if_neg (show ¬ (jI 5 = (3 : Int32)) by decide), if_neg (show ¬ (jI 5 = (4 : Int32)) by decide), if_pos (show jI 5 = (5 : Int32) by decide)]
      rw [u1, bnd_s]
      simp only [jn_e, ifb]
      show ∃ z, _ = some (jI (b01 (decide (p ∈ wy (mC M) (mO M) (mX M) (mE M))) : Int), z)
      cases decide (p ∈ wy (mC M) (mO M) (mX M) (mE M))
      · exact ⟨_, rfl⟩
      · exact ⟨_, rfl⟩
    · rw [if_neg (show ¬ (jI 6 = (0 : Int32)) by decide), if_neg (show ¬ (jI 6 = (1 : Int32)) by decide), if_neg (show ¬ (jI 6 = (2 : Int32)) by decide), if_neg (show ¬ (jI 6 = (3 : Int32)) by decide), if_neg (show ¬ (jI 6 = (4 : Int32)) by decide), if_neg (show ¬ (jI 6 = (5 : Int32)) by decide), if_pos (show jI 6 = (6 : Int32) by decide)]
      rw [z1, bnd_s]
      simp only [jn_e, z2, ifb]
      show ∃ z, _ = some (jI (if (wres M).1 = true then ((wres M).2 p : Int) else -4), z)
      cases hr : (wres M).1
      · exact ⟨_, rfl⟩
      · simp only [Bool.not_true, if_neg (show ¬ (false = true) from Bool.noConfusion), if_true]
        rw [at_i (by omega) (by omega), bnd_s, z4 p hp]
        exact ⟨_, rfl⟩
    · rw [j_0, if_neg (jne ha (by omega) n0), j_1, if_neg (jne ha (by omega) n1), j_2, if_neg (jne ha (by omega) n2), j_3, if_neg (jne ha (by omega) n3), j_4, if_neg (jne ha (by omega) n4), j_5, if_neg (jne ha (by omega) n5), j_6, if_neg (jne ha (by omega) n6)]
      unfold cellB
      rw [if_neg n0, if_neg n1, if_neg n2, if_neg n3, if_neg n4, if_neg n5, if_neg n6]
      exact ⟨_, rfl⟩
  · rw [if_neg (by rw [decide_eq_false e]; exact Bool.noConfusion), if_neg e]
    exact ⟨_, rfl⟩
theorem cellOf8 {f0 q0 o0 st0 vi ws : nF} {wc tu : Int32} (hF : 145 < F) (h : R8 s M) (hw : WF M) (hb : -2147483648 ≤ b ∧ b < 2147483648) (ha : -2147483648 ≤ a ∧ a < 2147483648) : ∃ z, mX8_cellOf F s f0 q0 o0 st0 wc tu vi ws (jI b) (jI a) = some (jI (cellA M b a), z) := by
  have hw2 := hw.w2
  have hN := dm_le hw.1
  have hE : mE M < mN M := hw.2.2.2.2.1.1
  have hX : mX M < mN M := hw.2.2.2.2.2.1.1
  unfold mX8_cellOf cellA
  rw [isCell8 h hw.1 hb, bnd_s]
  simp only [jn_e, ifb]
  by_cases e : 0 ≤ b ∧ b < (mN M : Int)
  · rw [if_pos (decide_eq_true e), if_pos e]
    obtain ⟨p, rfl⟩ := Int.eq_ofNat_of_zero_le e.1
    have hp : p < mN M := by omega
    simp only [Int.toNat_natCast]
    have e8 : mX8_in (jI a) (0 : Int32) (6 : Int32) = some (bI (decide (0 ≤ a ∧ a ≤ 6))) := by rw [j_0, j_6]; exact in8 ha (by omega) (by omega)
    rw [e8, bnd_s, ifb]
    by_cases e6 : 0 ≤ a ∧ a ≤ 6
    · rw [if_pos (decide_eq_true e6)]
      obtain ⟨y1, k1⟩ := partOf8 (f0 := f0) (q0 := q0) (F := F) (lb := true) (by omega) h hw2 hp
      obtain ⟨y2, k2⟩ := partOf8 (f0 := f0) (q0 := q0) (F := F) (lb := false) (by omega) h hw2 hp
      obtain ⟨y3, k3, k4⟩ := measures8 (f0 := f0) (q0 := q0) (F := F) (by omega) h hw2 hE
      obtain ⟨u, u1⟩ := onWay8 (f0 := f0) (q0 := q0) (o0 := o0) (st0 := st0) (wc := wc) (tu := tu) (F := F) (by omega) h hw2 hX hE hp
      obtain ⟨z, z1, z2, z3⟩ := walks8 (vi := vi) (ws := ws) (F := F) (by omega) h hw
      have hk : a = 0 ∨ a = 1 ∨ a = 2 ∨ a = 3 ∨ a = 4 ∨ a = 5 ∨ (a ≠ 0 ∧ a ≠ 1 ∧ a ≠ 2 ∧ a ≠ 3 ∧ a ≠ 4 ∧ a ≠ 5) := by omega
      rcases hk with rfl | rfl | rfl | rfl | rfl | rfl | ⟨n0, n1, n2, n3, n4, n5⟩
      · rw [if_pos (show jI 0 = (0 : Int32) by decide)]
        rw [j6p, gdi (by omega) (by omega), jcl _ (by omega), h.2.2.2.2.2.2.1 p hp]
        exact ⟨_, rfl⟩
      · rw [if_neg (show ¬ (jI 1 = (0 : Int32)) by decide), if_pos (show jI 1 = (1 : Int32) by decide)]
        rw [directions8 (by omega) h hw.1 hp, bnd_s]
        exact ⟨_, rfl⟩
      · rw [if_neg (show ¬ (jI 2 = (0 : Int32)) by decide), if_neg (show ¬ (jI 2 = (1 : Int32)) by decide), if_pos (show jI 2 = (2 : Int32) by decide)]
        rw [show (1 : Int32) = bI true from rfl, k1, bnd_s]
        exact ⟨_, rfl⟩
      · rw [if_neg (show ¬ (jI 3 = (0 : Int32)) by decide), if_neg (show ¬ (jI 3 = (1 : Int32)) by decide), if_neg (show ¬ (jI 3 = (2 : Int32)) by decide), if_pos (show jI 3 = (3 : Int32) by decide)]
        rw [show (0 : Int32) = bI false from rfl, k2, bnd_s]
        exact ⟨_, rfl⟩
      · rw [if_neg (show ¬ (jI 4 = (0 : Int32)) by decide), if_neg (show ¬ (jI 4 = (1 : Int32)) by decide), if_neg (show ¬ (jI 4 = (2 : Int32)) by decide), if_neg (show ¬ (jI 4 = (3 : Int32)) by decide), if_pos (show jI 4 = (4 : Int32) by decide)]
        rw [gl2, cl2, h.2.2.1, k3, bnd_s, gdi (by omega) (by omega), jcl _ (by omega), k4 p hp, orNone8 (dst_b hw2 hE hp), bnd_s]
        exact ⟨_, rfl⟩
      · rw [if_neg (show ¬ (jI 5 = (0 : Int32)) by decide), if_neg (show ¬ (jI 5 = (1 : Int32)) by decide), if_neg (show ¬ (jI 5 = (2 : Int32)) by decide), if_neg (show ¬ (jI 5 = (3 : Int32)) by decide), if_neg (show ¬ (jI 5 = (4 : Int32)) by decide), if_pos (show jI 5 = (5 : Int32) by decide)]
        rw [u1, bnd_s]
        show ∃ z, _ = some (jI (b01 (decide (p ∈ wy (mC M) (mO M) (mX M) (mE M))) : Int), z)
        rw [bnat]
        exact ⟨_, rfl⟩
      · rw [j_0, if_neg (jne ha (by omega) n0), j_1, if_neg (jne ha (by omega) n1), j_2, if_neg (jne ha (by omega) n2), j_3, if_neg (jne ha (by omega) n3), j_4, if_neg (jne ha (by omega) n4), j_5, if_neg (jne ha (by omega) n5)]
        have n6 : a = 6 := by omega
        subst n6
        rw [z1, bnd_s]
        simp only [z2, ← j_0, ifb]
        show ∃ z, _ = some (jI (if (wres M).1 = true then ((wres M).2 p : Int) else -4), z)
        cases hr : (wres M).1
        · exact ⟨_, rfl⟩
        · simp only [if_true]
          rw [gdi (by omega) (by omega), jcl _ (by omega), z3 p hp]
          exact ⟨_, rfl⟩
    · rw [if_neg (by rw [decide_eq_false e6]; exact Bool.noConfusion)]
      unfold cellB
      rw [if_neg (show ¬ a = 0 by omega), if_neg (show ¬ a = 1 by omega), if_neg (show ¬ a = 2 by omega), if_neg (show ¬ a = 3 by omega), if_neg (show ¬ a = 4 by omega), if_neg (show ¬ a = 5 by omega), if_neg (show ¬ a = 6 by omega)]
      exact ⟨_, rfl⟩
  · rw [if_neg (by rw [decide_eq_false e]; exact Bool.noConfusion), if_neg e]
    exact ⟨_, rfl⟩
end AN
end
section
/-! BUILD: places by tones until all is one part -/
theorem WF_setO {M : Mz} {op : Op} (hw : WF M) (hv : vO (mC M) (mN M) op) (hf : forest (mC M) op) : WF (setO M op) := ⟨hw.1, hw.2.1, hv, hf, hw.2.2.2.2⟩
theorem nd_lt {M : Mz} {k o : Nat} (hd : dm M) (hk : k < 2 * mN M) (h : nd (mC M) (mN M) k = some o) : o < mN M ∧ vld (mC M) (mN M) k ∧ pB (mC M) k = o := by
  have h1 := num_lt hd (pA_lt hk) pdr_lt h
  have hv : vld (mC M) (mN M) k := by
    apply Classical.byContradiction
    intro q
    rw [nd_nvld hk q] at h; cases h
  refine ⟨h1.2, hv, ?_⟩
  have := nd_vld hv
  rw [h] at this
  exact (Option.some.inj this).symm
/-- a place whose ends are not joined yet -/
noncomputable def okB (M : Mz) (k : Nat) : Bool := match nd (mC M) (mN M) k with
  | none => false
  | some o => !(joined M (pA k) o)
def valP (M : Mz) (k : Nat) : Int := (mT M (pA k) : Int) + (mT M (pB (mC M) k) : Int)
noncomputable def dkf (M : Mz) : Nat → Int × Int
  | 0 => (-1, -1)
  | k + 1 => if okB M k = true ∧ (dkf M k).2 < valP M k then ((k : Int), valP M k) else dkf M k
theorem dkf_b {M : Mz} (hw : WF M) : ∀ k, k ≤ 2 * mN M → -1 ≤ (dkf M k).1 ∧ (dkf M k).1 < (k : Int) ∧ -1 ≤ (dkf M k).2 ∧ (dkf M k).2 ≤ 18 ∧ ((dkf M k).1 = -1 → ∀ j, j < k → okB M j = false) ∧ (0 ≤ (dkf M k).1 → okB M (dkf M k).1.toNat = true) ∧ ((dkf M k).1 = -1 → (dkf M k).2 = -1) := by
  intro k
  induction k with
  | zero =>
    intro _
    have e : dkf M 0 = (-1, -1) := rfl
    rw [e]
    exact ⟨by decide, by decide, by decide, by decide, fun _ j hj => by omega, fun z => absurd z (show ¬ (0 ≤ ((-1 : Int), (-1 : Int)).1) by decide), fun _ => rfl⟩
  | succ k ih =>
    intro hk
    obtain ⟨h1, h2, h3, h4, h5, h6, h7⟩ := ih (by omega)
    simp only [dkf]
    by_cases q : okB M k = true ∧ (dkf M k).2 < valP M k
    · rw [if_pos q]
      have hv : 0 ≤ valP M k ∧ valP M k ≤ 18 := by
        have hq := q.1
        unfold okB at hq
        cases hn : nd (mC M) (mN M) k with
        | none => rw [hn] at hq; cases hq
        | some o =>
          obtain ⟨n1, n2, n3⟩ := nd_lt hw.1 (show k < 2 * mN M by omega) hn
          have t1 := hw.2.1 (pA k) (pA_lt (show k < 2 * mN M by omega))
          have t2 := hw.2.1 (pB (mC M) k) (by rw [n3]; exact n1)
          unfold valP
          omega
      refine ⟨?_, ?_, ?_, ?_, ?_, ?_, ?_⟩
      · show -1 ≤ (k : Int); omega
      · show (k : Int) < ((k + 1 : Nat) : Int); omega
      · show -1 ≤ valP M k; omega
      · show valP M k ≤ 18; omega
      · intro z
        have z : (k : Int) = -1 := z
        omega
      · intro _
        show okB M ((k : Int)).toNat = true
        rw [Int.toNat_natCast]; exact q.1
      · intro z
        have z : (k : Int) = -1 := z
        omega
    · rw [if_neg q]
      refine ⟨h1, by omega, h3, h4, fun z j hj => ?_, h6, h7⟩
      by_cases e : j = k
      · subst e
        cases ho : okB M j with
        | false => rfl
        | true =>
          exfalso
          apply q
          refine ⟨ho, ?_⟩
          rw [h7 z]
          have : 0 ≤ valP M j := by unfold valP; omega
          omega
      · exact h5 z j (by omega)
noncomputable def dkP (M : Mz) : Nat := (dkf M (2 * mN M)).1.toNat
noncomputable def bstep (M : Mz) : Mz := setO M (setE (mO M) (dkP M) true)
noncomputable def bit (M : Mz) : Nat → Mz
  | 0 => M
  | j + 1 => bstep (bit M j)
section BU
variable {v : MZ} {s f : nF} {M : Mz} {c d F n i k x y : Nat} {P : Nat → Nat}
theorem ok_conn (hw : WF2 M) (hk : k < 2 * mN M) : okB M k = true ↔ vld (mC M) (mN M) k ∧ ¬ conn (mC M) (mO M) (pA k) (pB (mC M) k) := by
  unfold okB
  cases hn : nd (mC M) (mN M) k with
  | none =>
    constructor
    · intro z; cases z
    · intro z
      rw [nd_vld z.1] at hn; cases hn
  | some o =>
    obtain ⟨n1, n2, n3⟩ := nd_lt hw.1 hk hn
    show (!(joined M (pA k) o)) = true ↔ _
    unfold joined
    rw [← n3, Bool.not_eq_true', decide_eq_false_iff_not, dst_c]
    exact ⟨fun z => ⟨n2, z⟩, fun z => z.2⟩
/-- all cells of the grid are joined if all neighbours are -/
theorem grid_conn (hd : dm M) (h : ∀ k, vld (mC M) (mN M) k → conn (mC M) (mO M) (pA k) (pB (mC M) k)) : ∀ x, x < mN M → conn (mC M) (mO M) 0 x := by
  have hN := dm_le hd
  intro x
  induction x using Nat.strongRecOn with
  | ind x ih =>
    intro hx
    by_cases e0 : x = 0
    · subst e0; exact conn_rf
    · by_cases e : 0 < x % mC M
      · have hc : mC M = 2 ∨ mC M = 3 ∨ mC M = 4 ∨ mC M = 5 ∨ mC M = 6 := by omega
        have h1 := h (2 * (x - 1)) (by
          unfold vld
          rw [if_pos (by omega), show 2 * (x - 1) / 2 = x - 1 by omega]
          refine ⟨by omega, ?_⟩
          rcases hc with q | q | q | q | q <;> rw [q] at e ⊢ <;> omega)
        have e1 : pA (2 * (x - 1)) = x - 1 := by unfold pA; omega
        have e2 : pB (mC M) (2 * (x - 1)) = x := by unfold pB; rw [if_pos (by omega)]; omega
        rw [e1, e2] at h1
        exact conn_tr (ih (x - 1) (by omega) (by omega)) h1
      · have hge : mC M ≤ x := by
          apply Classical.byContradiction
          intro q
          rw [Nat.mod_eq_of_lt (by omega)] at e
          omega
        have h1 := h (2 * (x - mC M) + 1) (by
          unfold vld
          rw [if_neg (by omega), show (2 * (x - mC M) + 1) / 2 = x - mC M by omega]
          exact ⟨by omega, by omega⟩)
        have e1 : pA (2 * (x - mC M) + 1) = x - mC M := by unfold pA; omega
        have e2 : pB (mC M) (2 * (x - mC M) + 1) = x := by unfold pB; rw [if_neg (by omega)]; omega
        rw [e1, e2] at h1
        exact conn_tr (ih (x - mC M) (by omega) (by omega)) h1
theorem part_ge (hw : WF2 M) : 1 ≤ partI M := by
  have hN := dm_le hw.1
  have hG := vO_inG hw.1.1 hw.1.2.1 hw.1.2.2.1 hw.1.2.2.2 hw.2.1
  have := cnt_le hw.2.2 hG (by omega)
  have e : cnt (mO M) (2 * mN M) = cnt (mO M) (2 * (mC M * mR M)) := rfl
  unfold partI
  omega
theorem whole_iff (hw : WF2 M) : partI M = 1 ↔ ∀ k, k < 2 * mN M → okB M k = false := by
  have hN := dm_le hw.1
  have hG := vO_inG hw.1.1 hw.1.2.1 hw.1.2.2.1 hw.1.2.2.2 hw.2.1
  constructor
  · intro h k hk
    cases ho : okB M k with
    | false => rfl
    | true =>
      obtain ⟨h1, h2⟩ := (ok_conn hw hk).mp ho
      have hl := nd_lt hw.1 hk (nd_vld h1)
      exfalso
      apply h2
      refine whole_conn hw.2.2 hG ?_ (pA_lt hk) hl.1
      have e : cnt (mO M) (2 * mN M) = cnt (mO M) (2 * (mC M * mR M)) := rfl
      unfold partI at h
      omega
  · intro h
    have hg := grid_conn (M := M) hw.1 (fun k hk => by
      apply Classical.byContradiction
      intro q
      have := (ok_conn hw hk.1).mpr ⟨hk, q⟩
      rw [h k hk.1] at this; cases this)
    have := conn_whole hw.2.2 hG (by omega) (fun x y hx hy => conn_tr (conn_sy (hg x hx)) (hg y hy))
    have e : cnt (mO M) (2 * mN M) = cnt (mO M) (2 * (mC M * mR M)) := rfl
    unfold partI
    omega
theorem dk_found (hw : WF M) (h : partI M ≠ 1) : 0 ≤ (dkf M (2 * mN M)).1 ∧ dkP M < 2 * mN M ∧ vld (mC M) (mN M) (dkP M) ∧ ¬ conn (mC M) (mO M) (pA (dkP M)) (pB (mC M) (dkP M)) := by
  obtain ⟨h1, h2, h3, h4, h5, h6, h7⟩ := dkf_b hw (2 * mN M) (Nat.le_refl _)
  have h0 : 0 ≤ (dkf M (2 * mN M)).1 := by
    apply Classical.byContradiction
    intro q
    exact h ((whole_iff hw.w2).mpr (h5 (by omega)))
  have hk : dkP M < 2 * mN M := by unfold dkP; omega
  have := (ok_conn hw.w2 hk).mp (h6 h0)
  exact ⟨h0, hk, this.1, this.2⟩
theorem dk_none (hw : WF M) (h : partI M = 1) : (dkf M (2 * mN M)).1 = -1 := by
  obtain ⟨h1, h2, h3, h4, h5, h6, h7⟩ := dkf_b hw (2 * mN M) (Nat.le_refl _)
  apply Classical.byContradiction
  intro q
  have a := h6 (by omega)
  rw [(whole_iff hw.w2).mp h _ (by omega)] at a
  cases a
theorem bstep_wf (hw : WF M) (h : partI M ≠ 1) : WF (bstep M) ∧ partI (bstep M) = partI M - 1 := by
  obtain ⟨h1, h2, h3, h4⟩ := dk_found hw h
  have hno : mO M (dkP M) = false := by
    cases ho : mO M (dkP M) with
    | false => rfl
    | true => exact absurd (conn_ad (adj_k ho)) h4
  refine ⟨WF_setO hw (vO_set hw.2.2.1 h3) (forest_ins hw.2.2.2.1 h4), ?_⟩
  have e : cnt (setE (mO M) (dkP M) true) (2 * mN M) = cnt (mO M) (2 * mN M) + 1 := cnt_ins hno h2
  show (mN M : Int) - (cnt (setE (mO M) (dkP M) true) (2 * mN M) : Int) = partI M - 1
  unfold partI
  omega
theorem bit_wf (hw : WF M) : ∀ j : Nat, (j : Int) ≤ partI M - 1 → WF (bit M j) ∧ partI (bit M j) = partI M - j := by
  intro j
  induction j with
  | zero => intro _; exact ⟨hw, by simp [bit]⟩
  | succ j ih =>
    intro hj
    obtain ⟨h1, h2⟩ := ih (by omega)
    obtain ⟨h3, h4⟩ := bstep_wf h1 (by omega)
    exact ⟨h3, by show partI (bstep (bit M j)) = _; rw [h4, h2]; omega⟩
theorem bit_s (j : Nat) : mC (bit M j) = mC M ∧ mR (bit M j) = mR M ∧ mT (bit M j) = mT M ∧ mE (bit M j) = mE M ∧ mEs (bit M j) = mEs M ∧ mX (bit M j) = mX M ∧ mXs (bit M j) = mXs M ∧ mN (bit M j) = mN M := by
  induction j with
  | zero => exact ⟨rfl, rfl, rfl, rfl, rfl, rfl, rfl, rfl⟩
  | succ j ih => exact ih
/-- labels -/
def BR (f : nF) (P : Nat → Nat) : Prop := ∀ c, c < 36 → f c = jI (P c : Nat) ∧ P c < 36
def PI (C N : Nat) (op : Op) (P : Nat → Nat) : Prop := ∀ x y, x < N → y < N → (P x = P y ↔ conn C op x y)
theorem join3 {a b : Nat} (hF : 36 < F) (hf : BR f P) (ha : a < 36) (hb : b < 36) : ∃ g, mX0_join F f (jI (a : Nat)) (jI (b : Nat)) = some g ∧ BR g (fun c => if P c = P b then P a else P c) := by
  unfold mX0_join
  rw [at_i ha (by omega), bnd_s, at_i hb (by omega), bnd_s, (hf a ha).1, (hf b hb).1]
  have := lpr_fn (L := mX0_join_L22 (jI (P a : Nat)) (jI (P b : Nat))) (e := some (mix 36 (fun c => jI ((if P c = P b then P a else P c : Nat) : Int)) f)) (F := F) (fun i => (jI (i : Nat), mix i (fun c => jI ((if P c = P b then P a else P c : Nat) : Int)) f)) 36 (by
    intro i hi self
    simp only [mX0_join_L22, jN]
    rw [nle_f hi (by omega), gdi hi (by omega)]
    simp only [jn_e, jcl i (by omega), gdi hi (show 36 < 100000 by omega), jS]
    have e : mix i (fun c => jI ((if P c = P b then P a else P c : Nat) : Int)) f i = jI (P i : Nat) := by
      unfold mix; rw [if_neg (by omega)]; exact (hf i hi).1
    rw [e]
    have h1 := (hf i hi).2
    have h2 := (hf b hb).2
    by_cases q : P i = P b
    · rw [neq_t q, ← mix_S (f := fun c => jI ((if P c = P b then P a else P c : Nat) : Int))]
      simp only [if_pos q]
    · rw [neq_f q (by omega) (by omega), ← mix_S (f := fun c => jI ((if P c = P b then P a else P c : Nat) : Int))]
      simp only [if_neg q]
      have : upd (mix i (fun c => jI ((if P c = P b then P a else P c : Nat) : Int)) f) i (jI (P i : Nat)) = mix i (fun c => jI ((if P c = P b then P a else P c : Nat) : Int)) f := by
        funext j
        by_cases z : j = i
        · subst z; rw [upd_s, e]
        · rw [upd_n z]
      rw [this]) (by
    intro self
    simp only [mX0_join_L22, jN]
    rw [nle_t (Nat.le_refl _) (by omega)]) hF
  simp only [mix_0] at this
  refine ⟨mix 36 (fun c => jI ((if P c = P b then P a else P c : Nat) : Int)) f, ?_, fun c hc => ⟨mix_lt hc, ?_⟩⟩
  · rw [← this, jl_0]
  · have h1 := (hf c hc).2
    have h2 := (hf a ha).2
    show (if P c = P b then P a else P c) < 36
    split <;> omega
theorem PI_ins {C N : Nat} {op : Op} (h : PI C N op P) (ha : pA k < N) (hb : pB C k < N) : PI C N (setE op k true) (fun c => if P c = P (pB C k) then P (pA k) else P c) := by
  intro x y hx hy
  rw [conn_ins_iff, ← h x y hx hy, ← h x (pA k) hx ha, ← h (pB C k) y hb hy, ← h x (pB C k) hx hb, ← h (pA k) y ha hy]
  show ((if P x = P (pB C k) then P (pA k) else P x) = (if P y = P (pB C k) then P (pA k) else P y)) ↔ _
  by_cases q1 : P x = P (pB C k)
  · rw [if_pos q1]
    by_cases q2 : P y = P (pB C k)
    · rw [if_pos q2]
      exact ⟨fun _ => Or.inl (q1.trans q2.symm), fun _ => rfl⟩
    · rw [if_neg q2]
      refine ⟨fun z => Or.inr (Or.inr ⟨q1, z⟩), ?_⟩
      rintro (z | ⟨z1, z2⟩ | ⟨-, z⟩)
      · exact absurd (z.symm.trans q1) q2
      · exact absurd z2.symm q2
      · exact z
  · rw [if_neg q1]
    by_cases q2 : P y = P (pB C k)
    · rw [if_pos q2]
      refine ⟨fun z => Or.inr (Or.inl ⟨z, q2.symm⟩), ?_⟩
      rintro (z | ⟨z, -⟩ | ⟨z, -⟩)
      · exact absurd (z.trans q2) q1
      · exact z
      · exact absurd z q1
    · rw [if_neg q2]
      refine ⟨fun z => Or.inl z, ?_⟩
      rintro (z | ⟨-, z⟩ | ⟨z, -⟩)
      · exact z
      · exact absurd z.symm q2
      · exact absurd z q1
theorem findParts3 (hF : 72 < F) (h : R3 v M) (hw : WF2 M) : ∃ g P, mX0_findParts F f v = some g ∧ BR g P ∧ PI (mC M) (mN M) (mO M) P := by
  have hd := hw.1
  have hN := dm_le hd
  unfold mX0_findParts
  simp only [jn_e]
  have h1 := lpr_fn (L := mX0_findParts_L2 (mX0_findParts_K24 F v)) (e := mX0_findParts_K24 F v (mix 36 (fun c => jI (c : Nat)) f)) (F := F) (fun i => (jI (i : Nat), mix i (fun c => jI (c : Nat)) f)) 36 (by
    intro i hi self
    simp only [mX0_findParts_L2, jN]
    rw [nle_f hi (by omega), gdi hi (by omega), jcl _ (by omega), jS, mix_S (f := fun c => jI (c : Nat))]) (by
    intro self
    simp only [mX0_findParts_L2, jN]
    rw [nle_t (Nat.le_refl _) (by omega)]) (by omega)
  simp only [mix_0] at h1
  rw [jl_0, h1]
  simp only [mX0_findParts_K24]
  have key := lpr_r (Q := fun g : BD => ∃ P, BR g P ∧ PI (mC M) (mN M) (mO M) P) (L := mX0_findParts_L26 F v) (F := F)
    (fun i y => y.1 = jI (i : Nat) ∧ ∃ P, BR y.2 P ∧ PI (mC M) (mN M) (fun k => mO M k && decide (k < i)) P) (2 * mN M) (x := (jI ((0 : Nat) : Int), mix 36 (fun c => jI (c : Nat)) f)) (by
    rintro i ⟨y1, y2⟩ hi ⟨e1, P, hP, hI⟩
    have e1 : y1 = jI (i : Nat) := e1
    subst e1
    have hP : BR y2 P := hP
    by_cases e : i = 2 * mN M
    · left
      refine ⟨y2, ⟨P, hP, ?_⟩, fun self => ?_⟩
      · have : (fun k => mO M k && decide (k < i)) = mO M := by
          funext k
          cases ho : mO M k with
          | false => rfl
          | true => rw [decide_eq_true (by rw [e]; exact (hw.2.1 k ho).1)]; rfl
        rwa [this] at hI
      · simp only [mX0_findParts_L26, places3 h, bnd_s]
        rw [nle_t (by omega) (by omega)]
    · right
      have hi2 : i < 2 * mN M := by omega
      have hst : ∀ self, mX0_findParts_L26 F v self (jI (i : Nat), y2) = if mO M i = true then ((mX0_join F y2 (jI (pA i : Nat)) (oJ (nd (mC M) (mN M) i))).bind fun r11 => self (jI ((i + 1 : Nat) : Int), r11)) else self (jI ((i + 1 : Nat) : Int), y2) := by
        intro self
        simp only [mX0_findParts_L26, places3 h, bnd_s]
        rw [nle_f hi2 (by omega), isOpenPlace3 h hd hw.2.1 hi2, bnd_s]
        simp only [jn_e, ifb, lowEnd3 (show i < 72 by omega), highEnd3 h hd hi2, bnd_s, jS]
      refine ⟨hi2, ?_⟩
      by_cases ho : mO M i = true
      · have hv := hw.2.1 i ho
        have hn := nd_vld hv
        have hl := nd_lt hd hi2 hn
        have hA : pA i < mN M := pA_lt hi2
        obtain ⟨g, g1, g2⟩ := join3 (F := F) (by omega) hP (show pA i < 36 by omega) (show pB (mC M) i < 36 by omega)
        refine ⟨(jI ((i + 1 : Nat) : Int), g), ⟨rfl, _, g2, ?_⟩, fun self => by rw [hst, if_pos ho, hn, oJ_some, g1, bnd_s]⟩
        have := PI_ins (k := i) hI hA hl.1
        have e2 : setE (fun k => mO M k && decide (k < i)) i true = (fun k => mO M k && decide (k < i + 1)) := by
          funext k
          by_cases z : k = i
          · subst z; rw [setE_self, ho, decide_eq_true (by omega)]; rfl
          · rw [setE_ne z]
            show (mO M k && decide (k < i)) = (mO M k && decide (k < i + 1))
            congr 1
            exact decide_eq_decide.mpr (by omega)
        rwa [e2] at this
      · refine ⟨(jI ((i + 1 : Nat) : Int), y2), ⟨rfl, P, hP, ?_⟩, fun self => by rw [hst, if_neg ho]⟩
        have e2 : (fun k => mO M k && decide (k < i)) = (fun k => mO M k && decide (k < i + 1)) := by
          funext k
          by_cases z : k = i
          · subst z
            have : mO M k = false := by simpa using ho
            rw [this]; rfl
          · show (mO M k && decide (k < i)) = (mO M k && decide (k < i + 1))
            congr 1
            exact decide_eq_decide.mpr (by omega)
        rwa [e2] at hI) ⟨rfl, fun c => c, fun c hc => ⟨by
      show mix 36 (fun c => jI (c : Nat)) f c = jI (c : Nat)
      exact mix_lt hc, hc⟩, fun x y hx hy => by
      have e2 : (fun k => mO M k && decide (k < 0)) = fun _ => false := by
        funext k
        rw [decide_eq_false (by omega), Bool.and_false]
      rw [e2]
      refine ⟨fun z => ?_, fun z => z (fun w => x = w) rfl (fun u w huw _ => ?_)⟩
      · have z : x = y := z
        subst z; exact conn_rf
      · obtain ⟨k, hk, -⟩ := huw
        cases hk⟩ (by omega)
  obtain ⟨g, ⟨P, g1, g2⟩, g3⟩ := key
  exact ⟨g, P, g3, g1, g2⟩
theorem darkest3 (hF : 72 < F) (h : R3 v M) (hw : WF M) (hf : BR f P) (hP : PI (mC M) (mN M) (mO M) P) : mX0_darkestPlace F f v = some (jI (dkf M (2 * mN M)).1) := by
  have hd := hw.1
  have hN := dm_le hd
  unfold mX0_darkestPlace
  have := lpr_fn (L := mX0_darkestPlace_L7 f v) (e := some (jI (dkf M (2 * mN M)).1)) (F := F) (fun i => (jI (dkf M i).1, jI (dkf M i).2, jI (i : Nat))) (2 * mN M) (by
    intro i hi self
    obtain ⟨b1, b2, b3, b4, -⟩ := dkf_b hw i (by omega)
    simp only [mX0_darkestPlace_L7, places3 h, bnd_s]
    rw [nle_f hi (by omega), lowEnd3 (show i < 72 by omega), bnd_s, highEnd3 h hd hi, bnd_s]
    simp only [jn_e, jS]
    have hS : dkf M (i + 1) = if okB M i = true ∧ (dkf M i).2 < valP M i then ((i : Int), valP M i) else dkf M i := rfl
    have hA : pA i < mN M := pA_lt hi
    cases hn : nd (mC M) (mN M) i with
    | none =>
      have ho : okB M i = false := by unfold okB; rw [hn]
      rw [oJ_none, if_pos (by decide), hS, if_neg (fun z => by rw [ho] at z; cases z.1)]
    | some o =>
      obtain ⟨n1, n2, n3⟩ := nd_lt hd hi hn
      rw [oJ_some, if_neg (by rw [nem1 (by omega)]; exact id), at_i (by omega) (by omega), bnd_s, at_i (by omega) (by omega), bnd_s, (hf _ (show pA i < 36 by omega)).1, (hf o (by omega)).1]
      have hp1 := (hf _ (show pA i < 36 by omega)).2
      have hp2 := (hf o (by omega)).2
      have hok : okB M i = true ↔ P (pA i) ≠ P o := by
        rw [ok_conn hw.w2 hi, n3]
        have := hP (pA i) o hA n1
        exact ⟨fun z q => z.2 (this.mp q), fun z => ⟨n2, fun q => z (this.mpr q)⟩⟩
      by_cases q : P (pA i) = P o
      · rw [neq_t q, hS, if_neg (fun z => hok.mp z.1 q)]
      · rw [neq_f q (by omega) (by omega), at_i (by omega) (by omega), bnd_s, at_i (by omega) (by omega), bnd_s, h.2.2.1 _ hA, h.2.2.1 o n1, jI_add]
        have hval : (mT M (pA i) : Int) + (mT M o : Int) = valP M i := by unfold valP; rw [n3]
        have t1 := hw.2.1 (pA i) hA
        have t2 := hw.2.1 o n1
        by_cases z : (dkf M i).2 < valP M i
        · rw [jle_f (by omega) (by omega) (by omega), hS, if_pos ⟨hok.mpr q, z⟩, hval]
        · rw [jle_t (by omega) (by omega) (by omega), hS, if_neg (fun y => z y.2)]) (by
    intro self
    simp only [mX0_darkestPlace_L7, places3 h, bnd_s]
    rw [nle_t (Nat.le_refl _) (by omega)]) (by omega)
  have e0 : dkf M 0 = (-1, -1) := rfl
  rw [e0] at this
  have this2 : lpr (mX0_darkestPlace_L7 f v) F ((-1 : Int32), (-1 : Int32), (0 : Int32)) = _ := this
  exact this2
theorem joinAll3 (hF : 72 < F) (h : R3 v M) (hw : WF M) : ∃ g p, mX0_joinAllParts F f v = some (jI (partI M - 1), g, p) ∧ R3 (wP v p) (bit M (partI M - 1).toNat) := by
  have hN := dm_le hw.1
  have hp1 := part_ge hw.w2
  have hp2 : partI M ≤ 36 := by unfold partI; omega
  unfold mX0_joinAllParts
  obtain ⟨g, P, g1, g2, g3⟩ := findParts3 (f := f) hF h hw.w2
  rw [g1, bnd_s]
  simp only [jn_e]
  have key := lpr_r (Q := fun z : Int32 × BD × nF => z.1 = jI (partI M - 1) ∧ R3 (wP v z.2.2) (bit M (partI M - 1).toNat)) (L := mX0_joinAllParts_L9 F v mX0_joinAllParts_K63 (mX0_joinAllParts_K28 mX0_joinAllParts_K63)) (F := F)
    (fun j y => y.1 = jI (j : Nat) ∧ y.2.1 = jI (j : Nat) ∧ (j : Int) ≤ partI M - 1 ∧ (∃ P, BR y.2.2.1 P ∧ PI (mC (bit M j)) (mN (bit M j)) (mO (bit M j)) P) ∧ R3 (wP v y.2.2.2) (bit M j)) 36 (x := ((0 : Int32), (0 : Int32), g, v.2.2.2.1)) (by
    rintro j ⟨y1, y2, y3, y4⟩ hj ⟨e1, e2, e3, ⟨P, hP, hI⟩, hR⟩
    have e1 : y1 = jI (j : Nat) := e1
    have e2 : y2 = jI (j : Nat) := e2
    subst e1; subst e2
    have hP : BR y3 P := hP
    have hR : R3 (wP v y4) (bit M j) := hR
    obtain ⟨w1, w2⟩ := bit_wf hw j e3
    have hNj := dm_le w1.1
    have hdk := darkest3 hF hR w1 hP hI
    have hb := bit_s (M := M) j
    have hst : ∀ self, mX0_joinAllParts_L9 F v mX0_joinAllParts_K63 (mX0_joinAllParts_K28 mX0_joinAllParts_K63) self (jI (j : Nat), jI (j : Nat), y3, y4) = if jI (dkf (bit M j) (2 * mN (bit M j))).1 = (-1 : Int32) then some (jI (j : Nat), y3, y4) else ((mX3_setPlace (wP v y4) (jI (dkf (bit M j) (2 * mN (bit M j))).1) (bI true)).bind fun r9 => (mX3_lowEnd (jI (dkf (bit M j) (2 * mN (bit M j))).1)).bind fun r10 => (mX3_highEnd (wP v r9) (jI (dkf (bit M j) (2 * mN (bit M j))).1)).bind fun r11 => (mX0_join F y3 r10 r11).bind fun r12 => self (jI ((j + 1 : Nat) : Int), jI ((j + 1 : Nat) : Int), r12, r9)) := by
      intro self
      simp only [mX0_joinAllParts_L9, jl_36]
      rw [nle_f (by omega) (by omega)]
      have hdk2 : mX0_darkestPlace F y3 (v.1, v.2.1, v.2.2.1, y4, v.2.2.2.2.1, v.2.2.2.2.2) = some (jI (dkf (bit M j) (2 * mN (bit M j))).1) := hdk
      rw [hdk2, bnd_s]
      simp only [jS]
      rfl
    by_cases e : (j : Int) = partI M - 1
    · left
      have hone : partI (bit M j) = 1 := by omega
      have hno := dk_none w1 hone
      refine ⟨(jI (j : Nat), y3, y4), ⟨by rw [← e], ?_⟩, fun self => by rw [hst, hno, if_pos (by decide)]⟩
      rw [← e, Int.toNat_natCast]; exact hR
    · right
      obtain ⟨f1, f2, f3, f4⟩ := dk_found w1 (by omega)
      obtain ⟨w3, w4⟩ := bstep_wf w1 (by omega)
      have ek : (dkf (bit M j) (2 * mN (bit M j))).1 = ((dkP (bit M j) : Nat) : Int) := by unfold dkP; omega
      obtain ⟨p, p1, p2⟩ := setPlace3 (t := true) hR w1.1 f3
      have hn := nd_vld f3
      have hl := nd_lt w1.1 f2 hn
      have hA : pA (dkP (bit M j)) < mN (bit M j) := pA_lt f2
      obtain ⟨g', q1, q2⟩ := join3 (F := F) (by omega) hP (show pA (dkP (bit M j)) < 36 by omega) (show pB (mC (bit M j)) (dkP (bit M j)) < 36 by omega)
      have hhe := highEnd3 p2 w1.1 f2
      refine ⟨by omega, (jI ((j + 1 : Nat) : Int), jI ((j + 1 : Nat) : Int), g', p), ⟨rfl, rfl, by omega, ⟨_, q2, PI_ins hI hA hl.1⟩, p2⟩, fun self => ?_⟩
      rw [hst, ek, if_neg (by rw [nem1 (by omega)]; exact id), p1, bnd_s, lowEnd3 (by omega), bnd_s]
      have hhe2 : mX3_highEnd (wP v p) (jI (dkP (bit M j) : Nat)) = some (oJ (nd (mC (bit M j)) (mN (bit M j)) (dkP (bit M j)))) := hhe
      rw [hhe2, bnd_s, hn, oJ_some, q1, bnd_s]) ⟨jl_0, jl_0, by omega, ⟨P, g2, g3⟩, h⟩ (by omega)
  obtain ⟨z, ⟨z1, z2⟩, z3⟩ := key
  refine ⟨z.2.1, z.2.2, ?_, z2⟩
  rw [z3, ← z1]
/-- the reference's search for the place -/
theorem build_in8 {f0 q0 : nF} (hF : 72 < F) (h : R8 s M) (hw : WF M) {x6 : Int32 × nF × nF × nF} (hx : x6.2.1 = s) : ∃ z : Int32 × nF × nF, z.1 = jI (dkf M (2 * mN M)).1 ∧ ∀ j10, lpr (mX8_build_L30 F x6 j10) F ((-1 : Int32), (-1 : Int32), (0 : Int32), f0, q0) = j10 z := by
  have hd := hw.1
  have hN := dm_le hd
  subst hx
  refine lpr_j (L := fun j10 => mX8_build_L30 F x6 j10) (fun i y => y.1 = jI (dkf M i).1 ∧ y.2.1 = jI (dkf M i).2 ∧ y.2.2.1 = jI (i : Nat)) (2 * mN M) ?_ ⟨j_m1, j_m1, jl_0⟩ (by omega)
  rintro i y hi ⟨y1, y2, y3⟩
  by_cases e : i = 2 * mN M
  · left
    refine ⟨(y.1, y.2.2.2.1, y.2.2.2.2), by rw [← e]; exact y1, fun j self => ?_⟩
    simp only [mX8_build_L30, cells8 h, bnd_s, j2m, y3]
    rw [nle_t (by omega) (by omega)]
  · right
    have hi2 : i < 2 * mN M := by omega
    obtain ⟨b1, b2, b3, b4, -⟩ := dkf_b hw i (by omega)
    have hS : dkf M (i + 1) = if okB M i = true ∧ (dkf M i).2 < valP M i then ((i : Int), valP M i) else dkf M i := rfl
    have hA : i / 2 < mN M := pA_lt hi2
    refine ⟨hi2, ?_⟩
    cases hn : nd (mC M) (mN M) i with
    | none =>
      have ho : okB M i = false := by unfold okB; rw [hn]
      refine ⟨(y.1, y.2.1, jI ((i + 1 : Nat) : Int), y.2.2.2.1, y.2.2.2.2), ⟨by rw [hS, if_neg (fun z => by rw [ho] at z; cases z.1)]; exact y1, by rw [hS, if_neg (fun z => by rw [ho] at z; cases z.1)]; exact y2, rfl⟩, fun j self => ?_⟩
      simp only [mX8_build_L30, cells8 h, bnd_s, j2m, y3]
      rw [nle_f hi2 (by omega), second8 h hd hi2, bnd_s, hn, oJ_none]
      simp only [jn_e]
      rw [if_neg (by decide), y2, j_m1, jle_t (by omega) (by omega) (by omega), jS]
    | some o =>
      obtain ⟨n1, n2, n3⟩ := nd_lt hd hi2 hn
      have hval : (mT M (i / 2) : Int) + (mT M o : Int) = valP M i := by unfold valP; rw [n3]; rfl
      have t1 := hw.2.1 (i / 2) hA
      have t2 := hw.2.1 o n1
      obtain ⟨u, hu⟩ := areJoined8 (f0 := y.2.2.2.1) (q0 := y.2.2.2.2) (p := i / 2) (q := o) (F := F) (by omega) h hw.w2 hA n1
      have hst : ∀ j self, mX8_build_L30 F x6 j self y = if jI (valP M i) ≤ jI (dkf M i).2 then self (y.1, y.2.1, jI ((i + 1 : Nat) : Int), y.2.2.2.1, y.2.2.2.2) else (if decide (0 ≤ dst (mC M) (mO M) (i / 2) o) = true then self (y.1, y.2.1, jI ((i + 1 : Nat) : Int), u.1, u.2) else self (jI (i : Nat), jI (valP M i), jI ((i + 1 : Nat) : Int), u.1, u.2)) := by
        intro j self
        simp only [mX8_build_L30, cells8 h, bnd_s, j2m, y3]
        rw [nle_f hi2 (by omega), second8 h hd hi2, bnd_s, hn, oJ_some]
        simp only [jn_e, gn2, jl_2, ndiv (show i < 100000 by omega) (show 2 < 100000 by omega) (show 0 < 2 by omega), j6p, gn2c, gdi (show 6 + i / 2 < 114 by omega) (show 114 < 100000 by omega), gdi (show 6 + o < 114 by omega) (show 114 < 100000 by omega), jcl (6 + i / 2) (by omega), jcl (6 + o) (by omega), h.2.2.2.2.2.2.1 _ hA, h.2.2.2.2.2.2.1 o n1, jI_add, hval, hu, bnd_s, ifb, jS, y2]
        rw [if_pos (show (0 : Int32) ≤ jI (o : Nat) by rw [n0l (by omega)]; trivial)]
      have hok : okB M i = true ↔ ¬ 0 ≤ dst (mC M) (mO M) (i / 2) o := by
        rw [ok_conn hw.w2 hi2, n3, dst_c]
        exact ⟨fun z => z.2, fun z => ⟨n2, z⟩⟩
      by_cases q : valP M i ≤ (dkf M i).2
      · refine ⟨(y.1, y.2.1, jI ((i + 1 : Nat) : Int), y.2.2.2.1, y.2.2.2.2), ⟨by rw [hS, if_neg (fun z => by omega)]; exact y1, by rw [hS, if_neg (fun z => by omega)]; exact y2, rfl⟩, fun j self => ?_⟩
        rw [hst, jle_t (by omega) (by omega) q]
      · by_cases q2 : 0 ≤ dst (mC M) (mO M) (i / 2) o
        · refine ⟨(y.1, y.2.1, jI ((i + 1 : Nat) : Int), u.1, u.2), ⟨by rw [hS, if_neg (fun z => hok.mp z.1 q2)]; exact y1, by rw [hS, if_neg (fun z => hok.mp z.1 q2)]; exact y2, rfl⟩, fun j self => ?_⟩
          rw [hst, jle_f (by omega) (by omega) (by omega), if_pos (decide_eq_true q2)]
        · refine ⟨(jI (i : Nat), jI (valP M i), jI ((i + 1 : Nat) : Int), u.1, u.2), ⟨by rw [hS, if_pos ⟨hok.mpr q2, by omega⟩], by rw [hS, if_pos ⟨hok.mpr q2, by omega⟩], rfl⟩, fun j self => ?_⟩
          rw [hst, jle_f (by omega) (by omega) (by omega), if_neg (by rw [decide_eq_false q2]; exact Bool.noConfusion)]
theorem build_out8 {f0 q0 : nF} {j4 : (Int32 × nF × nF × nF) → Option (Int32 × nF × nF × nF × Int32 × nF × nF)} (hF : 72 < F) (h : R8 s M) (hw : WF M) : ∃ z : Int32 × nF × nF × nF, z.1 = jI (partI M - 1) ∧ R8 z.2.1 (bit M (partI M - 1).toNat) ∧ lpr (mX8_build_L16 F j4) F ((0 : Int32), s, f0, q0) = j4 z := by
  have hN := dm_le hw.1
  have hp1 := part_ge hw.w2
  have hp2 : partI M ≤ 36 := by unfold partI; omega
  have key := lpr_j (Q := fun z : Int32 × nF × nF × nF => z.1 = jI (partI M - 1) ∧ R8 z.2.1 (bit M (partI M - 1).toNat)) (L := fun j4 => mX8_build_L16 F j4) (F := F)
    (fun j y => y.1 = jI (j : Nat) ∧ (j : Int) ≤ partI M - 1 ∧ R8 y.2.1 (bit M j)) 36 (x := ((0 : Int32), s, f0, q0)) (by
    rintro j ⟨y1, y2, y3, y4⟩ hj ⟨e1, e3, hR⟩
    have e1 : y1 = jI (j : Nat) := e1
    subst e1
    have hR : R8 y2 (bit M j) := hR
    obtain ⟨w1, w2⟩ := bit_wf hw j e3
    have hNj := dm_le w1.1
    have hW := isWhole8 (F := F) (by omega) hR w1.1
    by_cases e : (j : Int) = partI M - 1
    · left
      have hone : partI (bit M j) = 1 := by omega
      refine ⟨(jI (j : Nat), y2, y3, y4), ⟨by rw [← e], ?_⟩, fun j4 self => ?_⟩
      · rw [← e, Int.toNat_natCast]; exact hR
      · simp only [mX8_build_L16, hW, bnd_s, ifb]
        rw [if_pos (decide_eq_true hone)]
    · right
      have hone : ¬ partI (bit M j) = 1 := by omega
      obtain ⟨f1, f2, f3, f4⟩ := dk_found w1 hone
      have ek : (dkf (bit M j) (2 * mN (bit M j))).1 = ((dkP (bit M j) : Nat) : Int) := by unfold dkP; omega
      obtain ⟨z, z1, z2⟩ := build_in8 (f0 := y3) (q0 := y4) (x6 := (jI (j : Nat), y2, y3, y4)) hF hR w1 rfl
      refine ⟨by omega, (jI ((j + 1 : Nat) : Int), upd y2 (42 + dkP (bit M j)) (jI (b01 true : Nat)), z.2.1, z.2.2), ⟨rfl, by omega, R8_set hR w1.1 f2⟩, fun j4 self => ?_⟩
      simp only [mX8_build_L16, hW, bnd_s, ifb, jn_e]
      rw [if_neg (by rw [decide_eq_false hone]; exact Bool.noConfusion), z2]
      simp only [mX8_build_K114, z1, ek, j42p]
      rw [gdi (by omega) (by omega), jcl _ (by omega), jS]
      rfl) ⟨jl_0, by omega, h⟩ (by omega)
  obtain ⟨z, ⟨z1, z2⟩, z3⟩ := key
  exact ⟨z, z1, z2, z3 j4⟩
end BU
end
section
/-! EXCHANGES: the two sides of a cut, the fault behind an exchange, the best one -/
def cutM (M : Mz) (k : Nat) : Mz := setO M (setE (mO M) k false)
def xM (M : Mz) (k j : Nat) : Mz := setO M (setE (setE (mO M) k false) j true)
noncomputable def side (M : Mz) (k x : Nat) : Bool := decide (0 ≤ dst (mC M) (setE (mO M) k false) (mE M) x)
noncomputable def candB (M : Mz) (k j : Nat) : Bool := match nd (mC M) (mN M) j with
  | none => false
  | some o => !(mO M j) && (side M k (pA j) != side M k o)
noncomputable def exF (M : Mz) (k j : Nat) : Int := faultI (xM M k j) (mX M)
noncomputable def exj (M : Mz) (k : Nat) : Nat → (Int × Int × Int) → (Int × Int × Int)
  | 0, t => t
  | j + 1, t => if candB M k j = true ∧ exF M k j < (exj M k j t).2.2 then ((k : Int), (j : Int), exF M k j) else exj M k j t
noncomputable def exk (M : Mz) : Nat → (Int × Int × Int)
  | 0 => (-1, -1, 1000000)
  | k + 1 => if mO M k = true then exj M k (2 * mN M) (exk M k) else exk M k
noncomputable def exT (M : Mz) : Int × Int × Int := exk M (2 * mN M)
section EX
variable {M : Mz} {c d F n i j k x y : Nat}
theorem side_t : side M k x = true ↔ conn (mC M) (setE (mO M) k false) (mE M) x := by
  unfold side
  rw [decide_eq_true_iff, dst_c]
theorem cand_t (hw : WF2 M) (hj : j < 2 * mN M) : candB M k j = true ↔ vld (mC M) (mN M) j ∧ mO M j = false ∧ side M k (pA j) ≠ side M k (pB (mC M) j) := by
  unfold candB
  cases hn : nd (mC M) (mN M) j with
  | none =>
    constructor
    · intro z; cases z
    · intro z
      rw [nd_vld z.1] at hn; cases hn
  | some o =>
    obtain ⟨n1, n2, n3⟩ := nd_lt hw.1 hj hn
    show (!(mO M j) && (side M k (pA j) != side M k o)) = true ↔ _
    rw [n3, Bool.and_eq_true, bne_iff_ne, Bool.not_eq_true']
    exact ⟨fun z => ⟨n2, z.1, z.2⟩, fun z => ⟨z.2.1, z.2.2⟩⟩
theorem whole_all (hw : WF2 M) (h1 : partI M = 1) (hx : x < mN M) (hy : y < mN M) : conn (mC M) (mO M) x y := by
  have hN := dm_le hw.1
  have hG := vO_inG hw.1.1 hw.1.2.1 hw.1.2.2.1 hw.1.2.2.2 hw.2.1
  refine whole_conn hw.2.2 hG ?_ hx hy
  have e : cnt (mO M) (2 * mN M) = cnt (mO M) (2 * (mC M * mR M)) := rfl
  unfold partI at h1
  omega
theorem cand_nc (hw : WF2 M) (hj : j < 2 * mN M) (h : candB M k j = true) : ¬ conn (mC M) (setE (mO M) k false) (pA j) (pB (mC M) j) := by
  obtain ⟨h1, h2, h3⟩ := (cand_t hw hj).mp h
  intro hc
  apply h3
  rw [Bool.eq_iff_iff, side_t, side_t]
  exact ⟨fun z => conn_tr z hc, fun z => conn_tr z (conn_sy hc)⟩
theorem xM_wf (hw : WF M) (hj : j < 2 * mN M) (h : candB M k j = true) : WF (xM M k j) := by
  obtain ⟨h1, h2, h3⟩ := (cand_t hw.w2 hj).mp h
  refine WF_setO hw ?_ (forest_ins (forest_del hw.2.2.2.1) (cand_nc hw.w2 hj h))
  refine vO_set (fun i hi => hw.2.2.1 i (del_mo i hi)) h1
theorem cut_wf (hw : WF M) : WF (cutM M k) := WF_setO hw (fun i hi => hw.2.2.1 i (del_mo i hi)) (forest_del hw.2.2.2.1)
theorem xM_part (hw : WF M) (hk : k < 2 * mN M) (ho : mO M k = true) (hj : j < 2 * mN M) (h : candB M k j = true) : partI (xM M k j) = partI M := by
  obtain ⟨h1, h2, h3⟩ := (cand_t hw.w2 hj).mp h
  have hjk : j ≠ k := by
    rintro rfl
    rw [h2] at ho; cases ho
  have e1 := cnt_del (n := 2 * mN M) ho
  rw [if_pos hk] at e1
  have e2 : cnt (setE (setE (mO M) k false) j true) (2 * mN M) = cnt (setE (mO M) k false) (2 * mN M) + 1 := cnt_ins (by rw [setE_ne hjk]; exact h2) hj
  show (mN M : Int) - (cnt (setE (setE (mO M) k false) j true) (2 * mN M) : Int) = partI M
  unfold partI
  omega
/-- the fault behind an exchange -/
theorem ex_keep (hw : WF M) (hj : j < 2 * mN M) (h : candB M k j = true) (hs : side M k (mX M) = true) : exF M k j = faultI M (mX M) := by
  have hX : mX M < mN M := hw.2.2.2.2.2.1.1
  have hx := xM_wf hw hj h
  obtain ⟨V2, len2, prev2, h2⟩ := rt_ex hw.w2 hX
  obtain ⟨V3, len3, prev3, h3⟩ := rt_ex hx.w2 (r := mX M) hX
  have hc := side_t.mp hs
  have hk := way_keep (r := mE M) hw.1.1 hw.2.2.2.1 h2 h3 hx.2.2.2.1 (conn_sy hc)
  have hV : V2 (mE M) := (rt_conn h2).mpr (conn_mo del_mo (conn_sy hc))
  unfold exF faultI
  have e1 : wy (mC (xM M k j)) (mO (xM M k j)) (mX M) (mE (xM M k j)) = wy (mC M) (mO M) (mX M) (mE M) := by
    rw [wy_rt hw.1.1 hw.2.2.2.1 h2 hV, ← hk.2]
    exact wy_rt hw.1.1 hx.2.2.2.1 h3 hk.1
  rw [e1]; rfl
theorem ex_over (hw : WF M) (h1 : partI M = 1) (ho : mO M k = true) (hj : j < 2 * mN M) (h : candB M k j = true) (hs : side M k (mX M) = false) {p q : Nat} (hpq : (pA j = p ∧ pB (mC M) j = q) ∨ (pA j = q ∧ pB (mC M) j = p)) (hp : side M k p = true) (hq : side M k q = false) :
    exF M k j = (toneS M : Int) + sumL (gain M) (wy (mC M) (mO M) (mE M) p) + sumL (gain M) (wy (mC M) (mO M) (mX M) q) := by
  have hE : mE M < mN M := hw.2.2.2.2.1.1
  have hX : mX M < mN M := hw.2.2.2.2.2.1.1
  have hx := xM_wf hw hj h
  obtain ⟨c1, c2, c3⟩ := (cand_t hw.w2 hj).mp h
  have hl := nd_lt hw.1 hj (nd_vld c1)
  have hA : pA j < mN M := pA_lt hj
  have hpN : p < mN M := by rcases hpq with ⟨a, b⟩ | ⟨a, b⟩ <;> omega
  have hqN : q < mN M := by rcases hpq with ⟨a, b⟩ | ⟨a, b⟩ <;> omega
  obtain ⟨V, len, prev, hr⟩ := rt_ex hw.w2 hE
  obtain ⟨V2, len2, prev2, h2⟩ := rt_ex hw.w2 hX
  obtain ⟨V3, len3, prev3, h3⟩ := rt_ex hx.w2 (r := mX M) hX
  have hcp := side_t.mp hp
  have hnX : ¬ conn (mC M) (setE (mO M) k false) (mE M) (mX M) := fun z => by rw [side_t.mpr z] at hs; cases hs
  have hnq : ¬ conn (mC M) (setE (mO M) k false) (mE M) q := fun z => by rw [side_t.mpr z] at hq; cases hq
  have hXq := two_sides hw.2.2.2.1 ho (whole_all hw.w2 h1 hE hX) (whole_all hw.w2 h1 hE hqN) hnX hnq
  have hk := way_exch hw.1.1 hw.2.2.2.1 hr h2 h3 hpq hcp hXq hnX
  have hVp : V p := (rt_conn hr).mpr (whole_all hw.w2 h1 hE hpN)
  have hVq : V2 q := (rt_conn h2).mpr (whole_all hw.w2 h1 hX hqN)
  unfold exF faultI
  have e1 : wy (mC (xM M k j)) (mO (xM M k j)) (mX M) (mE (xM M k j)) = (wy (mC M) (mO M) (mE M) p).reverse ++ wy (mC M) (mO M) (mX M) q := by
    rw [wy_rt hw.1.1 hw.2.2.2.1 hr hVp, wy_rt hw.1.1 hw.2.2.2.1 h2 hVq, ← hk.2]
    exact wy_rt hw.1.1 hx.2.2.2.1 h3 hk.1
  rw [e1, sumL_app, sumL_rev]
  show (toneS M : Int) + (sumL (gain M) _ + sumL (gain M) _) = _
  omega
theorem exF_b (hw : WF M) (hj : j < 2 * mN M) (h : candB M k j = true) : 0 ≤ exF M k j ∧ exF M k j ≤ 324 := by
  have hx := xM_wf hw hj h
  exact fault_b hx.w2 hx.2.1 hw.2.2.2.2.2.1.1
def Tb (M : Mz) (t : Int × Int × Int) : Prop := t = (-1, -1, 1000000) ∨ ∃ k j : Nat, k < 2 * mN M ∧ j < 2 * mN M ∧ mO M k = true ∧ candB M k j = true ∧ t = ((k : Int), (j : Int), exF M k j)
theorem exj_T (hk : k < 2 * mN M) (ho : mO M k = true) {t : Int × Int × Int} (ht : Tb M t) : ∀ J, J ≤ 2 * mN M → Tb M (exj M k J t) := by
  intro J
  induction J with
  | zero => intro _; exact ht
  | succ J ih =>
    intro hJ
    simp only [exj]
    by_cases q : candB M k J = true ∧ exF M k J < (exj M k J t).2.2
    · rw [if_pos q]
      exact Or.inr ⟨k, J, hk, by omega, ho, q.1, rfl⟩
    · rw [if_neg q]; exact ih (by omega)
theorem exk_T : ∀ K, K ≤ 2 * mN M → Tb M (exk M K) := by
  intro K
  induction K with
  | zero => intro _; exact Or.inl rfl
  | succ K ih =>
    intro hK
    simp only [exk]
    by_cases q : mO M K = true
    · rw [if_pos q]; exact exj_T (by omega) q (ih (by omega)) _ (Nat.le_refl _)
    · rw [if_neg q]; exact ih (by omega)
theorem Tb_b (hw : WF M) {t : Int × Int × Int} (ht : Tb M t) : -1 ≤ t.1 ∧ t.1 < 72 ∧ -1 ≤ t.2.1 ∧ t.2.1 < 72 ∧ 0 ≤ t.2.2 ∧ t.2.2 ≤ 1000000 ∧ (t.2.1 = -1 → t = (-1, -1, 1000000)) ∧ (t.2.1 ≠ -1 → t.2.2 ≤ 324) := by
  have hN := dm_le hw.1
  rcases ht with rfl | ⟨k, j, h1, h2, h3, h4, rfl⟩
  · exact ⟨by decide, by decide, by decide, by decide, by decide, by decide, fun _ => rfl, fun z => absurd rfl z⟩
  · have := exF_b hw h2 h4
    refine ⟨?_, ?_, ?_, ?_, this.1, ?_, fun z => ?_, fun _ => this.2⟩
    · show -1 ≤ (k : Int); omega
    · show (k : Int) < 72; omega
    · show -1 ≤ (j : Int); omega
    · show (j : Int) < 72; omega
    · show exF M k j ≤ 1000000; omega
    · have z : (j : Int) = -1 := z
      omega
theorem exj_f (hw : WF M) (hk : k < 2 * mN M) (ho : mO M k = true) {t : Int × Int × Int} (ht : Tb M t) : ∀ J, J ≤ 2 * mN M → (t.2.1 ≠ -1 ∨ ∃ j, j < J ∧ candB M k j = true) → (exj M k J t).2.1 ≠ -1 := by
  intro J
  induction J with
  | zero =>
    rintro _ (h | ⟨j, hj, _⟩)
    · exact h
    · omega
  | succ J ih =>
    intro hJ h
    have hT := Tb_b hw (exj_T hk ho ht J (by omega))
    simp only [exj]
    by_cases q : candB M k J = true ∧ exF M k J < (exj M k J t).2.2
    · rw [if_pos q]
      show (J : Int) ≠ -1
      omega
    · rw [if_neg q]
      intro z
      have e := hT.2.2.2.2.2.2.1 z
      have hno : ¬ candB M k J = true := by
        intro hc
        apply q
        refine ⟨hc, ?_⟩
        rw [e]
        have := (exF_b hw (by omega) hc).2
        show exF M k J < 1000000
        omega
      refine ih (by omega) ?_ z
      rcases h with h | ⟨j, hj, hc⟩
      · exact Or.inl h
      · refine Or.inr ⟨j, ?_, hc⟩
        by_cases e2 : j = J
        · subst e2; exact absurd hc hno
        · omega
theorem exk_f (hw : WF M) : ∀ K, K ≤ 2 * mN M → (∃ k j, k < K ∧ j < 2 * mN M ∧ mO M k = true ∧ candB M k j = true) → (exk M K).2.1 ≠ -1 := by
  intro K
  induction K with
  | zero => rintro _ ⟨k, j, hk, _⟩; omega
  | succ K ih =>
    rintro hK ⟨k, j, hk, hj, ho, hc⟩
    simp only [exk]
    have hT := exk_T (M := M) K (by omega)
    by_cases e : k = K
    · subst e
      rw [if_pos ho]
      exact exj_f hw (by omega) ho hT _ (Nat.le_refl _) (Or.inr ⟨j, hj, hc⟩)
    · have hi := ih (by omega) ⟨k, j, by omega, hj, ho, hc⟩
      by_cases q : mO M K = true
      · rw [if_pos q]
        exact exj_f hw (by omega) q hT _ (Nat.le_refl _) (Or.inl hi)
      · rw [if_neg q]; exact hi
/-- a whole maze has an exchange -/
theorem ex_some (hw : WF M) (h1 : partI M = 1) : ∃ k j, k < 2 * mN M ∧ j < 2 * mN M ∧ mO M k = true ∧ candB M k j = true := by
  have hN := dm_le hw.1
  have hE : mE M < mN M := hw.2.2.2.2.1.1
  have hCN : mC M + 1 < mN M := by
    have h2 : mC M * 2 ≤ mC M * mR M := Nat.mul_le_mul_left _ hN.2.2.1
    rw [hN.2.2.2.2.2.2.2] at h2
    omega
  -- one of four places around a square is shut
  have hsq : ∃ j, vld (mC M) (mN M) j ∧ mO M j = false := by
    apply Classical.byContradiction
    intro hn
    have hall : ∀ j, vld (mC M) (mN M) j → mO M j = true := by
      intro j hj
      cases ho : mO M j with
      | true => rfl
      | false => exact absurd ⟨j, hj, ho⟩ hn
    have v0 : vld (mC M) (mN M) 0 := by
      unfold vld
      rw [if_pos (by omega), Nat.zero_div, Nat.zero_mod]
      exact ⟨by omega, by omega⟩
    have v1 : vld (mC M) (mN M) 1 := by
      unfold vld
      rw [if_neg (by omega)]
      exact ⟨by omega, by omega⟩
    have v3 : vld (mC M) (mN M) 3 := by
      unfold vld
      rw [if_neg (by omega)]
      exact ⟨by omega, by omega⟩
    have v2 : vld (mC M) (mN M) (2 * mC M) := by
      unfold vld
      rw [if_pos (by omega), show 2 * mC M / 2 = mC M by omega, Nat.mod_self]
      exact ⟨by omega, by omega⟩
    have hF := hw.2.2.2.1 0 (hall 0 v0)
    apply hF
    have ad : ∀ j, j ≠ 0 → vld (mC M) (mN M) j → conn (mC M) (setE (mO M) 0 false) (pA j) (pB (mC M) j) := fun j hj hv => conn_ad (adj_k (by rw [setE_ne hj]; exact hall j hv))
    have a1 := ad 1 (by omega) v1
    have a3 := ad 3 (by omega) v3
    have a2 := ad (2 * mC M) (by omega) v2
    have e1 : pA 1 = 0 := rfl
    have e2 : pB (mC M) 1 = mC M := by unfold pB; rw [if_neg (by omega)]; omega
    have e3 : pA 3 = 1 := rfl
    have e4 : pB (mC M) 3 = mC M + 1 := by unfold pB; rw [if_neg (by omega)]; omega
    have e5 : pA (2 * mC M) = mC M := by unfold pA; omega
    have e6 : pB (mC M) (2 * mC M) = mC M + 1 := by unfold pB; rw [if_pos (by omega)]; omega
    have e7 : pA 0 = 0 := rfl
    have e8 : pB (mC M) 0 = 1 := rfl
    rw [e1, e2] at a1
    rw [e3, e4] at a3
    rw [e5, e6] at a2
    rw [e7, e8]
    exact conn_tr a1 (conn_tr a2 (conn_sy a3))
  obtain ⟨j, hv, hj⟩ := hsq
  have hl := nd_lt hw.1 hv.1 (nd_vld hv)
  have hA : pA j < mN M := pA_lt hv.1
  have hab : pA j ≠ pB (mC M) j := by unfold pA pB; split <;> omega
  obtain ⟨V, len, prev, hr⟩ := rt_ex hw.w2 (r := pB (mC M) j) hl.1
  have hVa : V (pA j) := (rt_conn hr).mpr (whole_all hw.w2 h1 hl.1 hA)
  obtain ⟨p1, ⟨k, hk1, hk2⟩, p3⟩ := hr.2.2.1 _ hVa hab
  have hkv := hw.2.2.1 k hk1
  refine ⟨k, j, hkv.1, hv.1, hk1, (cand_t hw.w2 hv.1).mpr ⟨hv, hj, ?_⟩⟩
  have hcs := cut_side hw.1.1 hw.2.2.2.1 hr hk1 hab hVa (by
    rcases hk2 with ⟨a, b⟩ | ⟨a, b⟩
    · exact Or.inr ⟨a, b⟩
    · exact Or.inl ⟨a, b⟩) hVa
  have hnc := hcs.mp (by cases len (pA j) <;> simp [pth])
  intro hs
  cases hsa : side M k (pA j) with
  | true =>
    have z1 := side_t.mp hsa
    have z2 := side_t.mp (hs ▸ hsa)
    exact hnc (conn_tr (conn_sy z2) z1)
  | false =>
    have z1 : ¬ conn (mC M) (setE (mO M) k false) (mE M) (pA j) := fun z => by rw [side_t.mpr z] at hsa; cases hsa
    have z2 : ¬ conn (mC M) (setE (mO M) k false) (mE M) (pB (mC M) j) := fun z => by
      have := side_t.mpr z
      rw [← hs, hsa] at this; cases this
    exact hnc (two_sides hw.2.2.2.1 hk1 (whole_all hw.w2 h1 hE hl.1) (whole_all hw.w2 h1 hE hA) z2 z1)
theorem exT_found (hw : WF M) (h1 : partI M = 1) : ∃ k j : Nat, k < 2 * mN M ∧ j < 2 * mN M ∧ mO M k = true ∧ candB M k j = true ∧ exT M = ((k : Int), (j : Int), exF M k j) := by
  have hf := exk_f hw (2 * mN M) (Nat.le_refl _) (ex_some hw h1)
  rcases exk_T (M := M) (2 * mN M) (Nat.le_refl _) with e | ⟨k, j, g1, g2, g3, g4, g5⟩
  · rw [e] at hf
    exact absurd rfl hf
  · exact ⟨k, j, g1, g2, g3, g4, g5⟩
/-- the reference's side: the cells that stay with the low end -/
theorem here_cand (hw : WF M) (h1 : partI M = 1) (hk : k < 2 * mN M) (ho : mO M k = true) (hj : j < 2 * mN M) {o : Nat} (hn : nd (mC M) (mN M) j = some o) :
    (j ≠ k ∧ decide (0 ≤ dst (mC M) (setE (mO M) k false) (pA k) (pA j)) ≠ decide (0 ≤ dst (mC M) (setE (mO M) k false) (pA k) o)) ↔ candB M k j = true := by
  obtain ⟨n1, n2, n3⟩ := nd_lt hw.1 hj hn
  have hE : mE M < mN M := hw.2.2.2.2.1.1
  have hA : pA j < mN M := pA_lt hj
  have hkA : pA k < mN M := pA_lt hk
  have hF := hw.2.2.2.1 k ho
  have hop : setE (setE (mO M) k false) k true = mO M := by rw [setE_setE, setE_id ho]
  -- whether a cell stays with the low end, by the side of the entry
  have hx : ∀ x, x < mN M → (conn (mC M) (setE (mO M) k false) (pA k) x ∨ conn (mC M) (setE (mO M) k false) (pB (mC M) k) x) := by
    intro x hxN
    have := whole_all hw.w2 h1 hkA hxN
    rw [← hop] at this
    rcases conn_ins this with a | ⟨a, b⟩ | ⟨a, b⟩
    · exact Or.inl a
    · exact Or.inr b
    · exact Or.inl b
  have key : (decide (0 ≤ dst (mC M) (setE (mO M) k false) (pA k) (pA j)) ≠ decide (0 ≤ dst (mC M) (setE (mO M) k false) (pA k) o)) ↔ side M k (pA j) ≠ side M k o := by
    have hd : ∀ x, decide (0 ≤ dst (mC M) (setE (mO M) k false) (pA k) x) = true ↔ conn (mC M) (setE (mO M) k false) (pA k) x := fun x => by rw [decide_eq_true_iff, dst_c]
    have hne : ∀ a b : Bool, a ≠ b ↔ ¬ (a = true ↔ b = true) := by decide
    rw [hne, hne, hd, hd, side_t, side_t]
    rcases hx (mE M) hE with he | he
    · constructor
      · intro z q
        apply z
        exact ⟨fun y => conn_tr he (q.mp (conn_tr (conn_sy he) y)), fun y => conn_tr he (q.mpr (conn_tr (conn_sy he) y))⟩
      · intro z q
        apply z
        exact ⟨fun y => conn_tr (conn_sy he) (q.mp (conn_tr he y)), fun y => conn_tr (conn_sy he) (q.mpr (conn_tr he y))⟩
    · have hflip : ∀ x, x < mN M → (conn (mC M) (setE (mO M) k false) (mE M) x ↔ ¬ conn (mC M) (setE (mO M) k false) (pA k) x) := by
        intro x hxN
        constructor
        · intro y z
          exact hF (conn_tr z (conn_sy (conn_tr he y)))
        · intro y
          rcases hx x hxN with a | a
          · exact absurd a y
          · exact conn_tr (conn_sy he) a
      rw [hflip _ hA, hflip o n1]
      exact not_congr (by
        constructor
        · intro q; exact not_congr q
        · intro q
          exact ⟨fun y => Classical.byContradiction fun z => (q.mpr z) y, fun y => Classical.byContradiction fun z => (q.mp z) y⟩)
  rw [cand_t hw.w2 hj, key, n3]
  constructor
  · rintro ⟨a, b⟩
    refine ⟨n2, ?_, b⟩
    cases hoj : mO M j with
    | false => rfl
    | true =>
      exfalso
      apply b
      have : conn (mC M) (setE (mO M) k false) (pA j) o := by
        rw [← n3]
        exact conn_ad (adj_k (by rw [setE_ne a]; exact hoj))
      rw [Bool.eq_iff_iff, side_t, side_t]
      exact ⟨fun z => conn_tr z this, fun z => conn_tr z (conn_sy this)⟩
  · rintro ⟨a, b, c⟩
    refine ⟨?_, c⟩
    rintro rfl
    rw [b] at ho; cases ho
end EX
end
section
/-! FIND: the search for the best exchange on both sides -/
def clsE (f : Int) (t : Int × Int × Int) : Int × Int × Int := if t.2.1 = -1 then (-1, -1, f) else t
section FD
variable {v : MZ} {w w1 w2 : WY} {ex : EX} {s : nF} {M : Mz} {c d F n i j k x y : Nat}
/-- the cells cut off -/
theorem cut3 (hF : 36 < F) (h : R3 v M) (hw : WF M) (h1 : partI M = 1) (hk : k < 2 * mN M) (ho : mO M k = true) (hq : WQ M (mE M) w) : ∃ g, mX1_cut F ex v w (jI (k : Nat)) = some g ∧ ∀ c, c < mN M → g c = jI (b01 (!(side M k c)) : Nat) := by
  have hd := hw.1
  have hN := dm_le hd
  have hE : mE M < mN M := hw.2.2.2.2.1.1
  have hv := hw.2.2.1 k ho
  have hn := nd_vld hv
  have hl := nd_lt hd hk hn
  have hA : pA k < mN M := pA_lt hk
  have hlA := wq_len hw.w2 hE hA hq
  have hlB := wq_len hw.w2 hE hl.1 hq
  obtain ⟨n, ord, prev, len, hS, q1, q2, q3, -, -⟩ := hq
  have hrt := ss_rt hS
  have hVall : ∀ c, c < mN M → Vs n ord c := fun c hc => (rt_conn hrt).mpr (whole_all hw.w2 h1 hE hc)
  have dA := dst_rt hd.1 hw.2.2.2.1 hrt (hVall _ hA)
  have dB := dst_rt hd.1 hw.2.2.2.1 hrt (hVall _ hl.1)
  have hnN := ss_n hS
  -- the deeper end
  have hdeep : ∃ f, f < mN M ∧ f ≠ mE M ∧ ((pA k = f ∧ pB (mC M) k = prev f) ∨ (pA k = prev f ∧ pB (mC M) k = f)) ∧ (if jI (dst (mC M) (mO M) (mE M) (pA k)) ≤ jI (dst (mC M) (mO M) (mE M) (pB (mC M) k)) then jI (pB (mC M) k : Nat) else jI (pA k : Nat)) = jI (f : Nat) := by
    have hadj : adj (mC M) (mO M) (pA k) (pB (mC M) k) := adj_k ho
    have l1 := dst_lt hw.w2 hE hA
    have l2 := dst_lt hw.w2 hE hl.1
    rcases rt_edge hd.1 hw.2.2.2.1 hrt (hVall _ hA) hadj with ⟨e, hp⟩ | ⟨e, hp⟩
    · have h3 := (hrt.2.2.1 _ (hVall _ hA) e).2.2
      rw [hp] at h3
      exact ⟨pA k, hA, e, Or.inl ⟨rfl, hp.symm⟩, by rw [jle_f (by omega) (by omega) (by omega)]⟩
    · have h3 := (hrt.2.2.1 _ (hVall _ hl.1) e).2.2
      rw [hp] at h3
      exact ⟨pB (mC M) k, hl.1, e, Or.inr ⟨hp.symm, rfl⟩, by rw [jle_t (by omega) (by omega) (by omega)]⟩
  obtain ⟨f, hf1, hf2, hf3, hf4⟩ := hdeep
  have hside : ∀ c, c < mN M → (f ∈ pth prev (len c) c ↔ side M k c = false) := by
    intro c hc
    rw [cut_side hd.1 hw.2.2.2.1 hrt ho hf2 (hVall f hf1) hf3 (hVall c hc)]
    constructor
    · intro z
      cases hs : side M k c with
      | false => rfl
      | true => exact absurd (side_t.mp hs) z
    · intro z y
      rw [side_t.mpr y] at z; cases z
  unfold mX1_cut
  rw [lowEnd3 (show k < 72 by omega), bnd_s, highEnd3 h hd hk, bnd_s, hn, oJ_some, hlA, bnd_s, hlB, bnd_s]
  simp only [jn_e]
  have hfin : ∃ g, ((mJ7_fill_53178 F 36 ex.2.2.2.2.2 (0 : Int32)).bind fun r7 => (mX7_put 36 r7 (jI (f : Nat)) (1 : Int32)).bind fun r8 => lpr (mX1_cut_L59 w) F ((1 : Int32), r8)) = some g ∧ ∀ c, c < mN M → g c = jI (b01 (!(side M k c)) : Nat) := by
    rw [fill3 hF (by omega), bnd_s, put_i (show f < 36 by omega) (by omega), bnd_s]
    have key := lpr_r (Q := fun g : nF => ∀ c, c < mN M → g c = jI (b01 (!(side M k c)) : Nat)) (L := mX1_cut_L59 w) (F := F)
      (fun i y => y.1 = jI ((i + 1 : Nat) : Int) ∧ i < n ∧ (∀ j, j < i + 1 → y.2 (ord j) = jI (b01 (!(side M k (ord j))) : Nat)) ∧ ∀ j, i + 1 ≤ j → j < n → y.2 (ord j) = jI (b01 (decide (ord j = f)) : Nat)) 36 (x := ((1 : Int32), upd (mix 36 (fun _ => (0 : Int32)) ex.2.2.2.2.2) f (1 : Int32))) (by
      rintro i ⟨y1, y2⟩ hi ⟨e1, hin, hd1, hd2⟩
      have e1 : y1 = jI ((i + 1 : Nat) : Int) := e1
      subst e1
      have hd1 : ∀ j, j < i + 1 → y2 (ord j) = jI (b01 (!(side M k (ord j))) : Nat) := hd1
      have hd2 : ∀ j, i + 1 ≤ j → j < n → y2 (ord j) = jI (b01 (decide (ord j = f)) : Nat) := hd2
      by_cases e : n = i + 1
      · left
        refine ⟨y2, fun c hc => ?_, fun self => ?_⟩
        · obtain ⟨j, hj, rfl⟩ := hVall c hc
          exact hd1 j (by omega)
        · simp only [mX1_cut_L59, q1]
          rw [nle_t (by omega) (by omega)]
      · right
        have hi1 : i + 1 < n := by omega
        have hoN := hS.2.2.2.2.1 (i + 1) hi1
        obtain ⟨j0, g1, g2, g3, g4⟩ := hS.2.2.2.2.2.2.1 (i + 1) (by omega) hi1
        have hjN := hS.2.2.2.2.1 j0 (by omega)
        have hcur := hd2 (i + 1) (Nat.le_refl _) hi1
        have hpv := hd1 j0 (by omega)
        have hm : f ∈ pth prev (len (ord (i + 1))) (ord (i + 1)) ↔ f = ord (i + 1) ∨ f ∈ pth prev (len (ord j0)) (ord j0) := by
          rw [g4]
          show f ∈ ord (i + 1) :: pth prev (len (ord j0)) (prev (ord (i + 1))) ↔ _
          rw [g2, List.mem_cons]
        rw [hside _ hoN, hside _ hjN] at hm
        have hst : ∀ self, mX1_cut_L59 w self (jI ((i + 1 : Nat) : Int), y2) = if y2 (ord j0) = (1 : Int32) then self (jI ((i + 1 + 1 : Nat) : Int), upd y2 (ord (i + 1)) (1 : Int32)) else self (jI ((i + 1 + 1 : Nat) : Int), y2) := by
          intro self
          simp only [mX1_cut_L59, q1]
          rw [nle_f hi1 (by omega), at_i (by omega) (by omega), bnd_s, q2 _ hi1, at_i (by omega) (by omega), bnd_s, q3 _ (by omega) hi1, g2, at_i (by omega) (by omega), bnd_s]
          simp only [jn_e, put_i (show ord (i + 1) < 36 by omega) (show 36 < 100000 by omega), bnd_s, jS]
        have b1 : ∀ b : Bool, (jI (b01 b : Nat) = (1 : Int32)) ↔ b = true := by decide
        cases hsj : side M k (ord j0) with
        | false =>
          have hsi := hm.mpr (Or.inr hsj)
          refine ⟨by omega, (jI ((i + 1 + 1 : Nat) : Int), upd y2 (ord (i + 1)) (1 : Int32)), ⟨rfl, hi1, fun j hj => ?_, fun j hj1 hj2 => ?_⟩, fun self => by rw [hst, hpv, hsj, if_pos (by decide)]⟩
          · show upd y2 (ord (i + 1)) (1 : Int32) (ord j) = _
            by_cases z : j = i + 1
            · subst z; rw [upd_s, hsi]; rfl
            · rw [upd_n (fun q => z (hS.2.2.2.2.2.1 _ _ (by omega) hi1 q))]; exact hd1 j (by omega)
          · show upd y2 (ord (i + 1)) (1 : Int32) (ord j) = _
            rw [upd_n (fun q => by have := hS.2.2.2.2.2.1 _ _ hj2 hi1 q; omega)]; exact hd2 j (by omega) hj2
        | true =>
          refine ⟨by omega, (jI ((i + 1 + 1 : Nat) : Int), y2), ⟨rfl, hi1, fun j hj => ?_, fun j hj1 hj2 => hd2 j (by omega) hj2⟩, fun self => by rw [hst, hpv, hsj, if_neg (by decide)]⟩
          show y2 (ord j) = _
          by_cases z : j = i + 1
          · subst z
            rw [hcur]
            by_cases q : ord (i + 1) = f
            · rw [decide_eq_true q, hm.mpr (Or.inl q.symm)]; rfl
            · rw [decide_eq_false q]
              cases hsi : side M k (ord (i + 1)) with
              | true => rfl
              | false =>
                rcases hm.mp hsi with z | z
                · exact absurd z.symm q
                · rw [hsj] at z; cases z
          · exact hd1 j (by omega)) ⟨jl_1, hS.1, fun j hj => by
        obtain rfl : j = 0 := by omega
        show upd (mix 36 (fun _ => (0 : Int32)) ex.2.2.2.2.2) f (1 : Int32) (ord 0) = _
        rw [hS.2.2.1, upd_n (Ne.symm hf2), mix_lt (by omega)]
        have : side M k (mE M) = true := side_t.mpr conn_rf
        rw [this]; rfl, fun j hj1 hj2 => by
        show upd (mix 36 (fun _ => (0 : Int32)) ex.2.2.2.2.2) f (1 : Int32) (ord j) = _
        have := hS.2.2.2.2.1 j hj2
        by_cases q : ord j = f
        · rw [q, upd_s, decide_eq_true rfl]; rfl
        · rw [upd_n q, mix_lt (by omega), decide_eq_false q]; rfl⟩ hF
    obtain ⟨g, k1, k2⟩ := key
    exact ⟨g, k2, k1⟩
  by_cases q : jI (dst (mC M) (mO M) (mE M) (pA k)) ≤ jI (dst (mC M) (mO M) (mE M) (pB (mC M) k))
  · rw [if_pos q] at hf4 ⊢
    rw [hf4]; exact hfin
  · rw [if_neg q] at hf4 ⊢
    rw [hf4]; exact hfin
theorem b01_ne {b b' : Bool} : (jI (b01 b : Nat) = jI (b01 b' : Nat)) = (b = b') := by cases b <;> cases b' <;> decide +kernel
/-- the best place to be made for one that is taken away -/
theorem findMade3 {t : Int × Int × Int} (hF : 72 < F) (h : R3 v M) (hw : WF M) (h1 : partI M = 1) (hk : k < 2 * mN M) (ho : mO M k = true) (hq1 : WQ M (mE M) w1) (hq2 : WQ M (mX M) w2) (ht : Tb M t)
    (hg : ∀ c, c < mN M → ex.2.2.2.2.2 c = jI (b01 (!(side M k c)) : Nat)) (he1 : ex.1 = jI (clsE (faultI M (mX M)) t).1) (he2 : ex.2.1 = jI (clsE (faultI M (mX M)) t).2.1) (he3 : ex.2.2.1 = jI (faultI M (mX M))) (he4 : ex.2.2.2.1 = jI (clsE (faultI M (mX M)) t).2.2) (he5 : ex.2.2.2.2.1 = jI (toneS M : Nat)) :
    mX1_findMade F ex v w1 w2 (jI (k : Nat)) = some (jI (clsE (faultI M (mX M)) (exj M k (2 * mN M) t)).1, jI (clsE (faultI M (mX M)) (exj M k (2 * mN M) t)).2.1, jI (clsE (faultI M (mX M)) (exj M k (2 * mN M) t)).2.2) := by
  have hd := hw.1
  have hN := dm_le hd
  have hE : mE M < mN M := hw.2.2.2.2.1.1
  have hX : mX M < mN M := hw.2.2.2.2.2.1.1
  unfold mX1_findMade
  rw [exit3 h, bnd_s, at_i (by omega) (by omega), bnd_s, hg _ hX]
  simp only [jn_e]
  have hfin : lpr (mX1_findMade_L25 ex v w1 w2 (jI (k : Nat)) (bI (!(side M k (mX M))))) F ((0 : Int32), ex.1, ex.2.1, ex.2.2.2.1) = some (jI (clsE (faultI M (mX M)) (exj M k (2 * mN M) t)).1, jI (clsE (faultI M (mX M)) (exj M k (2 * mN M) t)).2.1, jI (clsE (faultI M (mX M)) (exj M k (2 * mN M) t)).2.2) := by
    have := lpr_fn (L := mX1_findMade_L25 ex v w1 w2 (jI (k : Nat)) (bI (!(side M k (mX M))))) (e := some (jI (clsE (faultI M (mX M)) (exj M k (2 * mN M) t)).1, jI (clsE (faultI M (mX M)) (exj M k (2 * mN M) t)).2.1, jI (clsE (faultI M (mX M)) (exj M k (2 * mN M) t)).2.2)) (F := F)
      (fun j => (jI (j : Nat), jI (clsE (faultI M (mX M)) (exj M k j t)).1, jI (clsE (faultI M (mX M)) (exj M k j t)).2.1, jI (clsE (faultI M (mX M)) (exj M k j t)).2.2)) (2 * mN M) (by
      intro j hj self
      have hT := exj_T hk ho ht j (by omega)
      have hb := Tb_b hw hT
      have hfb := fault_b hw.w2 hw.2.1 hX
      have hS : exj M k (j + 1) t = if candB M k j = true ∧ exF M k j < (exj M k j t).2.2 then ((k : Int), (j : Int), exF M k j) else exj M k j t := rfl
      have hA : pA j < mN M := pA_lt hj
      simp only [mX1_findMade_L25, places3 h, bnd_s]
      rw [nle_f hj (by omega), lowEnd3 (show j < 72 by omega), bnd_s, highEnd3 h hd hj, bnd_s]
      simp only [jn_e, jS]
      cases hn : nd (mC M) (mN M) j with
      | none =>
        have hc : candB M k j = false := by unfold candB; rw [hn]
        rw [oJ_none, if_pos (by decide), hS, if_neg (fun z => by rw [hc] at z; cases z.1)]
      | some o =>
        obtain ⟨n1, n2, n3⟩ := nd_lt hd hj hn
        rw [oJ_some, if_neg (by rw [nem1 (by omega)]; exact id), isOpenPlace3 h hd hw.2.2.1 hj, bnd_s, ifb]
        cases hoj : mO M j with
        | true =>
          have hc : ¬ candB M k j = true := fun z => by
            have := ((cand_t hw.w2 hj).mp z).2.1
            rw [hoj] at this; cases this
          rw [if_pos rfl, hS, if_neg (fun z => hc z.1)]
        | false =>
          rw [if_neg Bool.noConfusion, at_i (by omega) (by omega), bnd_s, at_i (by omega) (by omega), bnd_s, hg _ hA, hg _ n1]
          by_cases hs : side M k (pA j) = side M k o
          · have hc : ¬ candB M k j = true := fun z => by
              have := ((cand_t hw.w2 hj).mp z).2.2
              rw [n3] at this; exact this hs
            rw [if_pos (by rw [hs]), hS, if_neg (fun z => hc z.1)]
          · have hc : candB M k j = true := (cand_t hw.w2 hj).mpr ⟨n2, hoj, by rw [n3]; exact hs⟩
            rw [if_neg (by rw [b01_ne]; intro z; exact hs (by cases h3 : side M k (pA j) <;> cases h4 : side M k o <;> simp_all)), bnd_s]
            have hxb := exF_b hw hj hc
            -- what it would be
            have hthen : ∃ p q : Nat, p < mN M ∧ q < mN M ∧ side M k p = true ∧ side M k q = false ∧ ((pA j = p ∧ pB (mC M) j = q) ∨ (pA j = q ∧ pB (mC M) j = p)) ∧ (if jI (b01 (!(side M k (pA j))) : Nat) = 0 then jI (pA j : Nat) else jI (o : Nat)) = jI (p : Nat) ∧ (if jI (p : Nat) = jI (pA j : Nat) then jI (o : Nat) else jI (pA j : Nat)) = jI (q : Nat) := by
              cases h3 : side M k (pA j) with
              | true =>
                have h4 : side M k o = false := by cases h4 : side M k o <;> simp_all
                exact ⟨pA j, o, hA, n1, h3, h4, Or.inl ⟨rfl, n3⟩, if_pos (by decide), if_pos rfl⟩
              | false =>
                have h4 : side M k o = true := by cases h4 : side M k o <;> simp_all
                have hne : o ≠ pA j := by
                  rintro rfl
                  rw [h3] at h4; cases h4
                exact ⟨o, pA j, n1, hA, h4, h3, Or.inr ⟨rfl, n3⟩, if_neg (by decide), if_neg (by rw [neq (by omega) (by omega)]; exact hne)⟩
            obtain ⟨p, q, hp, hq, sp, sq, hpq, ep, eq⟩ := hthen
            have hval : ∀ x16 x18 : Int32, x16 = jI (p : Nat) → x18 = jI (q : Nat) → ∀ K : Int32 → Option (Int32 × Int32 × Int32), (if bI (!(side M k (mX M))) = 0 then K ex.2.2.1 else (mX7_at 36 w1.2.2.2.2 x16).bind fun r24 => (mX7_at 36 w2.2.2.2.2 x18).bind fun r25 => K (ex.2.2.2.2.1 + r24 + r25)) = K (jI (exF M k j)) := by
              intro x16 x18 e16 e18 K
              subst e16; subst e18
              rw [ifb]
              cases hsx : side M k (mX M) with
              | true =>
                rw [if_neg (by decide), he3, ex_keep hw hj hc hsx]
              | false =>
                rw [if_pos (by decide), wq_gain hw.w2 hp hq1 (whole_all hw.w2 h1 hE hp), bnd_s, wq_gain hw.w2 hq hq2 (whole_all hw.w2 h1 hX hq), bnd_s, he5, jI_add, jI_add, ex_over hw h1 ho hj hc hsx hpq sp sq]
            have hupd : ∀ X : Int32, X = jI (exF M k j) → (if jI (clsE (faultI M (mX M)) (exj M k j t)).2.1 = (-1 : Int32) then self (jI ((j + 1 : Nat) : Int), jI (k : Nat), jI (j : Nat), X) else if jI (clsE (faultI M (mX M)) (exj M k j t)).2.2 ≤ X then self (jI ((j + 1 : Nat) : Int), jI (clsE (faultI M (mX M)) (exj M k j t)).1, jI (clsE (faultI M (mX M)) (exj M k j t)).2.1, jI (clsE (faultI M (mX M)) (exj M k j t)).2.2) else self (jI ((j + 1 : Nat) : Int), jI (k : Nat), jI (j : Nat), X)) = self (jI ((j + 1 : Nat) : Int), jI (clsE (faultI M (mX M)) (exj M k (j + 1) t)).1, jI (clsE (faultI M (mX M)) (exj M k (j + 1) t)).2.1, jI (clsE (faultI M (mX M)) (exj M k (j + 1) t)).2.2) := by
              intro X hXe
              subst hXe
              have hnew : clsE (faultI M (mX M)) ((k : Int), (j : Int), exF M k j) = ((k : Int), (j : Int), exF M k j) := if_neg (show ¬ ((j : Int) = -1) by omega)
              by_cases e : (exj M k j t).2.1 = -1
              · have e2 := hb.2.2.2.2.2.2.1 e
                have e3 : exj M k (j + 1) t = ((k : Int), (j : Int), exF M k j) := by
                  rw [hS, if_pos ⟨hc, by rw [e2]; show exF M k j < 1000000; omega⟩]
                have e4 : clsE (faultI M (mX M)) (exj M k j t) = (-1, -1, faultI M (mX M)) := if_pos e
                rw [e4, e3, hnew]
                exact if_pos (show jI (-1) = (-1 : Int32) by decide)
              · have e4 : clsE (faultI M (mX M)) (exj M k j t) = exj M k j t := if_neg e
                rw [e4, j_m1, jeq_f (by omega) (by omega) e]
                by_cases e5 : exF M k j < (exj M k j t).2.2
                · rw [jle_f (by omega) (by omega) e5, hS, if_pos ⟨hc, e5⟩, hnew]
                · rw [jle_t (by omega) (by omega) (by omega), hS, if_neg (fun z => e5 z.2), e4]
            by_cases z1 : jI (b01 (!(side M k (pA j))) : Nat) = 0
            · rw [if_pos z1] at ep ⊢
              rw [← ep] at eq
              rw [if_pos rfl] at eq
              rw [if_pos trivial]
              exact (hval _ _ ep eq (fun X => if jI (clsE (faultI M (mX M)) (exj M k j t)).2.1 = (-1 : Int32) then self (jI ((j + 1 : Nat) : Int), jI (k : Nat), jI (j : Nat), X) else if jI (clsE (faultI M (mX M)) (exj M k j t)).2.2 ≤ X then self (jI ((j + 1 : Nat) : Int), jI (clsE (faultI M (mX M)) (exj M k j t)).1, jI (clsE (faultI M (mX M)) (exj M k j t)).2.1, jI (clsE (faultI M (mX M)) (exj M k j t)).2.2) else self (jI ((j + 1 : Nat) : Int), jI (k : Nat), jI (j : Nat), X))).trans (hupd _ rfl)
            · rw [if_neg z1] at ep ⊢
              rw [← ep] at eq
              by_cases z2 : jI (o : Nat) = jI (pA j : Nat)
              · rw [if_pos z2] at eq ⊢
                exact (hval _ _ ep eq (fun X => if jI (clsE (faultI M (mX M)) (exj M k j t)).2.1 = (-1 : Int32) then self (jI ((j + 1 : Nat) : Int), jI (k : Nat), jI (j : Nat), X) else if jI (clsE (faultI M (mX M)) (exj M k j t)).2.2 ≤ X then self (jI ((j + 1 : Nat) : Int), jI (clsE (faultI M (mX M)) (exj M k j t)).1, jI (clsE (faultI M (mX M)) (exj M k j t)).2.1, jI (clsE (faultI M (mX M)) (exj M k j t)).2.2) else self (jI ((j + 1 : Nat) : Int), jI (k : Nat), jI (j : Nat), X))).trans (hupd _ rfl)
              · rw [if_neg z2] at eq ⊢
                exact (hval _ _ ep eq (fun X => if jI (clsE (faultI M (mX M)) (exj M k j t)).2.1 = (-1 : Int32) then self (jI ((j + 1 : Nat) : Int), jI (k : Nat), jI (j : Nat), X) else if jI (clsE (faultI M (mX M)) (exj M k j t)).2.2 ≤ X then self (jI ((j + 1 : Nat) : Int), jI (clsE (faultI M (mX M)) (exj M k j t)).1, jI (clsE (faultI M (mX M)) (exj M k j t)).2.1, jI (clsE (faultI M (mX M)) (exj M k j t)).2.2) else self (jI ((j + 1 : Nat) : Int), jI (k : Nat), jI (j : Nat), X))).trans (hupd _ rfl)) (by
      intro self
      simp only [mX1_findMade_L25, places3 h, bnd_s]
      rw [nle_t (by omega) (by omega)]) (by omega)
    rw [← this, he1, he2, he4, jl_0]; rfl
  cases hsx : side M k (mX M) with
  | true =>
    rw [hsx] at hfin
    rw [if_neg (by decide)]
    exact hfin
  | false =>
    rw [hsx] at hfin
    rw [if_pos (by decide)]
    exact hfin
theorem find3 (hF : 72 < F) (h : R3 v M) (hw : WF M) (h1 : partI M = 1) : ∃ g y1 y2, mX1_find F ex v w1 w2 = some ((jI (exT M).1, jI (exT M).2.1, jI (faultI M (mX M)), jI (exT M).2.2, jI (toneS M : Nat), g), y1, y2) := by
  have hd := hw.1
  have hN := dm_le hd
  have hE : mE M < mN M := hw.2.2.2.2.1.1
  have hX : mX M < mN M := hw.2.2.2.2.2.1.1
  obtain ⟨y1, a1, a2⟩ := findFrom3 (w := w1) (F := F) (by omega) h hw.w2 hE
  obtain ⟨y2, b1, b2⟩ := findFrom3 (w := w2) (F := F) (by omega) h hw.w2 hX
  unfold mX1_find
  rw [entry3 h, bnd_s, a1, bnd_s, exit3 h, bnd_s, b1, bnd_s, toneSum3 (by omega) h hd, bnd_s, bnd_s, wq_gain hw.w2 hX a2 (whole_all hw.w2 h1 hE hX), bnd_s, jI_add]
  have hf : (toneS M : Int) + sumL (gain M) (wy (mC M) (mO M) (mE M) (mX M)) = faultI M (mX M) := by
    unfold faultI; rw [wy_back hw.w2 hE hX]
  rw [hf]
  have key := lpr_r (Q := fun z : EX × WY × WY => ∃ g, z = ((jI (exT M).1, jI (exT M).2.1, jI (faultI M (mX M)), jI (exT M).2.2, jI (toneS M : Nat), g), y1, y2)) (L := mX1_find_L67 F v y1 y2 (jI (toneS M : Nat)) (jI (sumL (gain M) (wy (mC M) (mO M) (mE M) (mX M))))) (F := F)
    (fun i y => y.1 = jI (i : Nat) ∧ y.2.1 = jI (clsE (faultI M (mX M)) (exk M i)).1 ∧ y.2.2.1 = jI (clsE (faultI M (mX M)) (exk M i)).2.1 ∧ y.2.2.2.1 = jI (clsE (faultI M (mX M)) (exk M i)).2.2) (2 * mN M) (x := ((0 : Int32), (-1 : Int32), (-1 : Int32), jI (faultI M (mX M)), ex.2.2.2.2.2)) (by
    rintro i ⟨z1, z2, z3, z4, z5⟩ hi ⟨e1, e2, e3, e4⟩
    have e1 : z1 = jI (i : Nat) := e1
    have e2 : z2 = jI (clsE (faultI M (mX M)) (exk M i)).1 := e2
    have e3 : z3 = jI (clsE (faultI M (mX M)) (exk M i)).2.1 := e3
    have e4 : z4 = jI (clsE (faultI M (mX M)) (exk M i)).2.2 := e4
    subst e1
    by_cases e : i = 2 * mN M
    · left
      subst e
      obtain ⟨k, j, g1, g2, g3, g4, g5⟩ := exT_found hw h1
      have hcl : clsE (faultI M (mX M)) (exk M (2 * mN M)) = exT M := by
        have : exT M = exk M (2 * mN M) := rfl
        rw [← this, g5]
        exact if_neg (show ¬ ((j : Int) = -1) by omega)
      rw [hcl] at e2 e3 e4
      have e2 : z2 = jI (exT M).1 := e2
      have e3 : z3 = jI (exT M).2.1 := e3
      have e4 : z4 = jI (exT M).2.2 := e4
      refine ⟨_, ⟨z5, rfl⟩, fun self => ?_⟩
      simp only [mX1_find_L67, places3 h, bnd_s]
      rw [nle_t (by omega) (by omega), e2, e3, e4, jI_add, hf]
    · right
      have hi2 : i < 2 * mN M := by omega
      refine ⟨hi2, ?_⟩
      have hS : exk M (i + 1) = if mO M i = true then exj M i (2 * mN M) (exk M i) else exk M i := rfl
      cases ho : mO M i with
      | false =>
        refine ⟨(jI ((i + 1 : Nat) : Int), z2, z3, z4, z5), ⟨rfl, ?_, ?_, ?_⟩, fun self => ?_⟩
        · rw [hS, ho, if_neg Bool.noConfusion]; exact e2
        · rw [hS, ho, if_neg Bool.noConfusion]; exact e3
        · rw [hS, ho, if_neg Bool.noConfusion]; exact e4
        · simp only [mX1_find_L67, places3 h, bnd_s]
          rw [nle_f hi2 (by omega), isOpenPlace3 h hd hw.2.2.1 hi2, bnd_s]
          simp only [jn_e, ifb, ho, jS]
          rw [if_neg Bool.noConfusion]
      | true =>
        obtain ⟨g, g1, g2⟩ := cut3 (ex := (z2, z3, jI (faultI M (mX M)), z4, jI (toneS M : Nat), z5)) (F := F) (by omega) h hw h1 hi2 ho a2
        have hm := findMade3 (ex := (z2, z3, jI (faultI M (mX M)), z4, jI (toneS M : Nat), g)) (t := exk M i) hF h hw h1 hi2 ho a2 b2 (exk_T i hi) g2 e2 e3 rfl e4 rfl
        refine ⟨(jI ((i + 1 : Nat) : Int), jI (clsE (faultI M (mX M)) (exj M i (2 * mN M) (exk M i))).1, jI (clsE (faultI M (mX M)) (exj M i (2 * mN M) (exk M i))).2.1, jI (clsE (faultI M (mX M)) (exj M i (2 * mN M) (exk M i))).2.2, g), ⟨rfl, ?_, ?_, ?_⟩, fun self => ?_⟩
        · rw [hS, ho, if_pos rfl]
        · rw [hS, ho, if_pos rfl]
        · rw [hS, ho, if_pos rfl]
        · simp only [mX1_find_L67, places3 h, bnd_s]
          rw [nle_f hi2 (by omega), isOpenPlace3 h hd hw.2.2.1 hi2, bnd_s]
          simp only [jn_e, ifb, ho, jS, jI_add, hf]
          rw [if_pos trivial, g1, bnd_s, hm, bnd_s]) ⟨jl_0, j_m1, j_m1, rfl⟩ (by omega)
  obtain ⟨z, ⟨g, hz⟩, hz2⟩ := key
  exact ⟨g, y1, y2, by rw [hz2, hz]⟩
end FD
end
section
/-! LOOKS: the reference's search for the best exchange -/
def RV (t : Int × Int × Int) (bA bM bF : Int32) : Prop := bF = jI t.2.2 ∧ (t.2.1 ≠ -1 → bA = jI t.1 ∧ bM = jI t.2.1)
section LK
variable {s : nF} {M : Mz} {c d F n i j k x y : Nat}
theorem RV_t (hw : WF M) {t : Int × Int × Int} (ht : Tb M t) {bA bM bF : Int32} (hv : RV t bA bM bF) {x : Int} (hx : 0 ≤ x ∧ x ≤ 324) : (bF ≤ jI x) = (t.2.2 ≤ x) := by
  have := Tb_b hw ht
  rw [hv.1, jle (by omega) (by omega)]
theorem triesFor8 {f1 f2 f3 f4 ih : nF} {i1 i2 bA bM bF : Int32} {t : Int × Int × Int} (hF : 72 < F) (h : R8 s (cutM M k)) (hw : WF M) (h1 : partI M = 1) (hk : k < 2 * mN M) (ho : mO M k = true) (ht : Tb M t) (hv : RV t bA bM bF) :
    ∃ z, mX8_triesFor F s f1 f2 f3 f4 i1 i2 bA bM bF ih (jI (k : Nat)) = some z ∧ R8 z.1 (cutM M k) ∧ RV (exj M k (2 * mN M) t) z.2.2.2.2.2.2.2.1 z.2.2.2.2.2.2.2.2.1 z.2.2.2.2.2.2.2.2.2.1 := by
  have hd := hw.1
  have hN := dm_le hd
  have hE : mE M < mN M := hw.2.2.2.2.1.1
  have hX : mX M < mN M := hw.2.2.2.2.2.1.1
  have hc := cut_wf (k := k) hw
  have hkA : k / 2 < mN M := pA_lt hk
  obtain ⟨fq, m1, m2⟩ := measures8 (f0 := f1) (q0 := f2) (F := F) (r := k / 2) (by omega) h hc.w2 hkA
  unfold mX8_triesFor
  rw [gn2, jl_2, ndiv (by omega) (by omega) (by omega), m1, bnd_s]
  simp only [jn_e]
  have hloop := lpr_fn (L := mX8_triesFor_L9 s fq (mX8_triesFor_K43 F s f3 f4 i1 i2 bA bM bF (jI (k : Nat)) fq)) (e := mX8_triesFor_K43 F s f3 f4 i1 i2 bA bM bF (jI (k : Nat)) fq (mix (mN M) (fun c => jI (b01 (decide (0 ≤ dst (mC M) (setE (mO M) k false) (k / 2) c)) : Nat)) ih)) (F := F) (fun i => (jI (i : Nat), mix i (fun c => jI (b01 (decide (0 ≤ dst (mC M) (setE (mO M) k false) (k / 2) c)) : Nat)) ih)) (mN M) (by
    intro i hi self
    have hce : mX8_cells s = some (jI (mN M : Nat)) := cells8 (M := cutM M k) h
    simp only [mX8_triesFor_L9, hce, bnd_s]
    rw [nle_f hi (by omega), gdi (by omega) (by omega)]
    have hb : -2147483648 ≤ dst (mC M) (setE (mO M) k false) (k / 2) i ∧ dst (mC M) (setE (mO M) k false) (k / 2) i < 2147483648 := dst_b hc.w2 hkA hi
    have hm : fq.1 i = jI (dst (mC M) (setE (mO M) k false) (k / 2) i) := m2 i hi
    simp only [jn_e, gdi (show i < 36 by omega) (show 36 < 100000 by omega), jcl i (by omega), hm, jS]
    by_cases q : 0 ≤ dst (mC M) (setE (mO M) k false) (k / 2) i
    · rw [j_0, jlt_f hb (by omega) q, nar1, ← mix_S (f := fun c => jI (b01 (decide (0 ≤ dst (mC M) (setE (mO M) k false) (k / 2) c)) : Nat))]
      simp only [decide_eq_true q]
    · rw [show (0 : Int32) = jI 0 from j_0, jlt_t hb (by omega) (by omega), show jI 0 = (0 : Int32) from rfl, nar0, ← mix_S (f := fun c => jI (b01 (decide (0 ≤ dst (mC M) (setE (mO M) k false) (k / 2) c)) : Nat))]
      simp only [decide_eq_false q]) (by
    intro self
    have hce : mX8_cells s = some (jI (mN M : Nat)) := cells8 (M := cutM M k) h
    simp only [mX8_triesFor_L9, hce, bnd_s]
    rw [nle_t (Nat.le_refl _) (by omega)]) (by omega)
  simp only [mix_0] at hloop
  rw [jl_0, hloop]
  simp only [mX8_triesFor_K43]
  have key := lpr_r (Q := fun z : nF × nF × nF × nF × nF × Int32 × Int32 × Int32 × Int32 × Int32 × nF => R8 z.1 (cutM M k) ∧ RV (exj M k (2 * mN M) t) z.2.2.2.2.2.2.2.1 z.2.2.2.2.2.2.2.2.1 z.2.2.2.2.2.2.2.2.2.1) (L := mX8_triesFor_L45 F (jI (k : Nat)) (mix (mN M) (fun c => jI (b01 (decide (0 ≤ dst (mC M) (setE (mO M) k false) (k / 2) c)) : Nat)) ih)) (F := F)
    (fun j y => y.1 = jI (j : Nat) ∧ R8 y.2.1 (cutM M k) ∧ RV (exj M k j t) y.2.2.2.2.2.2.2.2.1 y.2.2.2.2.2.2.2.2.2.1 y.2.2.2.2.2.2.2.2.2.2) (2 * mN M) (x := (jI ((0 : Nat) : Int), s, fq.1, fq.2, f3, f4, i1, i2, bA, bM, bF)) (by
    rintro j ⟨y0, ys, y1, y2, y3, y4, y5, y6, yA, yM, yF⟩ hj ⟨e0, hR, hV⟩
    have e0 : y0 = jI (j : Nat) := e0
    subst e0
    have hR : R8 ys (cutM M k) := hR
    have hV : RV (exj M k j t) yA yM yF := hV
    have hce : mX8_cells ys = some (jI (mN M : Nat)) := cells8 (M := cutM M k) hR
    by_cases e : j = 2 * mN M
    · left
      subst e
      refine ⟨(ys, y1, y2, y3, y4, y5, y6, yA, yM, yF, mix (mN M) (fun c => jI (b01 (decide (0 ≤ dst (mC M) (setE (mO M) k false) (k / 2) c)) : Nat)) ih), ⟨hR, hV⟩, fun self => ?_⟩
      simp only [mX8_triesFor_L45, hce, bnd_s, j2m]
      rw [nle_t (by omega) (by omega)]
    · right
      have hj2 : j < 2 * mN M := by omega
      have hT := exj_T hk ho ht j (by omega)
      have hS : exj M k (j + 1) t = if candB M k j = true ∧ exF M k j < (exj M k j t).2.2 then ((k : Int), (j : Int), exF M k j) else exj M k j t := rfl
      have hA : j / 2 < mN M := pA_lt hj2
      have hsec : mX8_second ys (jI (j : Nat)) = some (oJ (nd (mC M) (mN M) j)) := second8 (M := cutM M k) hR hd hj2
      refine ⟨hj2, ?_⟩
      have hskip : candB M k j ≠ true → RV (exj M k (j + 1) t) yA yM yF := by
        intro z
        rw [hS, if_neg (fun q => z q.1)]; exact hV
      by_cases ek : j = k
      · have hc0 : candB M k j ≠ true := fun z => by
          have := ((cand_t hw.w2 hj2).mp z).2.1
          rw [ek, ho] at this; cases this
        refine ⟨(jI ((j + 1 : Nat) : Int), ys, y1, y2, y3, y4, y5, y6, yA, yM, yF), ⟨rfl, hR, hskip hc0⟩, fun self => ?_⟩
        simp only [mX8_triesFor_L45, hce, bnd_s, j2m]
        rw [nle_f hj2 (by omega), hsec, bnd_s]
        simp only [jn_e]
        rw [neq_t ek, jS]
      · cases hn : nd (mC M) (mN M) j with
        | none =>
          have hc0 : candB M k j ≠ true := fun z => by
            unfold candB at z; rw [hn] at z; cases z
          refine ⟨(jI ((j + 1 : Nat) : Int), ys, y1, y2, y3, y4, y5, y6, yA, yM, yF), ⟨rfl, hR, hskip hc0⟩, fun self => ?_⟩
          simp only [mX8_triesFor_L45, hce, bnd_s, j2m]
          rw [nle_f hj2 (by omega), hsec, bnd_s, hn, oJ_none]
          simp only [jn_e]
          rw [neq_f ek (by omega) (by omega), if_pos (by decide), jS]
        | some o =>
          obtain ⟨n1, n2, n3⟩ := nd_lt hd hj2 hn
          have hhc := here_cand hw h1 hk ho hj2 hn
          have hst : ∀ self, mX8_triesFor_L45 F (jI (k : Nat)) (mix (mN M) (fun c => jI (b01 (decide (0 ≤ dst (mC M) (setE (mO M) k false) (k / 2) c)) : Nat)) ih) self (jI (j : Nat), ys, y1, y2, y3, y4, y5, y6, yA, yM, yF) =
              if jI (b01 (decide (0 ≤ dst (mC M) (setE (mO M) k false) (k / 2) (j / 2))) : Nat) = jI (b01 (decide (0 ≤ dst (mC M) (setE (mO M) k false) (k / 2) o)) : Nat) then self (jI ((j + 1 : Nat) : Int), ys, y1, y2, y3, y4, y5, y6, yA, yM, yF)
              else (mX8_wayFault F (upd ys (42 + j) (1 : Int32)) y1 y2 y3 y4 y5 y6).bind fun r10 => if yF ≤ r10.1 then self (jI ((j + 1 : Nat) : Int), upd (upd ys (42 + j) (1 : Int32)) (42 + j) (0 : Int32), r10.2.1, r10.2.2.1, r10.2.2.2.1, r10.2.2.2.2.1, r10.2.2.2.2.2.1, r10.2.2.2.2.2.2, yA, yM, yF) else self (jI ((j + 1 : Nat) : Int), upd (upd ys (42 + j) (1 : Int32)) (42 + j) (0 : Int32), r10.2.1, r10.2.2.1, r10.2.2.2.1, r10.2.2.2.2.1, r10.2.2.2.2.2.1, r10.2.2.2.2.2.2, jI (k : Nat), jI (j : Nat), r10.1) := by
            intro self
            simp only [mX8_triesFor_L45, hce, bnd_s, j2m]
            rw [nle_f hj2 (by omega), hsec, bnd_s, hn, oJ_some]
            simp only [jn_e, gn2, jl_2, gn2c, ndiv (show j < 100000 by omega) (show 2 < 100000 by omega) (show 0 < 2 by omega), j42p, gdi (show j / 2 < 36 by omega) (show 36 < 100000 by omega), gdi (show o < 36 by omega) (show 36 < 100000 by omega), gdi (show 42 + j < 114 by omega) (show 114 < 100000 by omega), jcl (j / 2) (by omega), jcl o (by omega), jcl (42 + j) (by omega), mix_lt hA, mix_lt n1, jS]
            rw [neq_f ek (by omega) (by omega), if_neg (show ¬ (jI (o : Nat) < 0) by rw [nn0 (by omega)]; exact id)]
          by_cases hh : decide (0 ≤ dst (mC M) (setE (mO M) k false) (k / 2) (j / 2)) = decide (0 ≤ dst (mC M) (setE (mO M) k false) (k / 2) o)
          · have hc0 : candB M k j ≠ true := fun z => (hhc.mpr z).2 hh
            refine ⟨(jI ((j + 1 : Nat) : Int), ys, y1, y2, y3, y4, y5, y6, yA, yM, yF), ⟨rfl, hR, hskip hc0⟩, fun self => ?_⟩
            rw [hst, if_pos (by rw [b01_ne]; exact hh)]
          · have hcd : candB M k j = true := hhc.mp ⟨ek, hh⟩
            have hxw := xM_wf hw hj2 hcd
            have hR2 : R8 (upd ys (42 + j) (jI (b01 true : Nat))) (xM M k j) := R8_set hR hd hj2
            have hR3 : R8 (upd (upd ys (42 + j) (jI (b01 true : Nat))) (42 + j) (jI (b01 false : Nat))) (cutM M k) := by
              have := R8_set (t := false) hR2 hd hj2
              have e5 : setO (xM M k j) (setE (mO (xM M k j)) j false) = cutM M k := by
                show (M.1, M.2.1, setE (setE (setE (mO M) k false) j true) j false, M.2.2.2) = (M.1, M.2.1, setE (mO M) k false, M.2.2.2)
                rw [setE_setE, setE_id]
                rw [setE_ne ek]
                exact ((cand_t hw.w2 hj2).mp hcd).2.1
              rw [e5] at this
              exact this
            have hb := exF_b hw hj2 hcd
            obtain ⟨u, u1, u2⟩ := wayFault8 (f0 := y1) (q0 := y2) (o0 := y3) (st0 := y4) (wc := y5) (tu := y6) (F := F) (by omega) hR2 hxw.w2 hX hE
            have u2 : u.1 = jI (exF M k j) := u2
            have hcmp := RV_t hw hT hV hb
            by_cases q : (exj M k j t).2.2 ≤ exF M k j
            · refine ⟨(jI ((j + 1 : Nat) : Int), upd (upd ys (42 + j) (1 : Int32)) (42 + j) (0 : Int32), u.2.1, u.2.2.1, u.2.2.2.1, u.2.2.2.2.1, u.2.2.2.2.2.1, u.2.2.2.2.2.2, yA, yM, yF), ⟨rfl, hR3, by rw [hS, if_neg (fun z => by omega)]; exact hV⟩, fun self => ?_⟩
              rw [hst, if_neg (by rw [b01_ne]; exact hh), show (1 : Int32) = jI (b01 true : Nat) from rfl, u1, bnd_s, if_pos (by rw [u2, hcmp]; exact q)]
            · refine ⟨(jI ((j + 1 : Nat) : Int), upd (upd ys (42 + j) (1 : Int32)) (42 + j) (0 : Int32), u.2.1, u.2.2.1, u.2.2.2.1, u.2.2.2.2.1, u.2.2.2.2.2.1, u.2.2.2.2.2.2, jI (k : Nat), jI (j : Nat), u.1), ⟨rfl, hR3, by rw [hS, if_pos ⟨hcd, by omega⟩]; exact ⟨u2, fun _ => ⟨rfl, rfl⟩⟩⟩, fun self => ?_⟩
              rw [hst, if_neg (by rw [b01_ne]; exact hh), show (1 : Int32) = jI (b01 true : Nat) from rfl, u1, bnd_s, if_neg (by rw [u2, hcmp]; exact q)]) ⟨rfl, h, hv⟩ (by omega)
  obtain ⟨z, z1, z2⟩ := key
  exact ⟨z, z2, z1⟩
theorem looks8 {f1 f2 f3 f4 ih : nF} {i1 i2 bA bM bF : Int32} (hF : 72 < F) (h : R8 s M) (hw : WF M) (h1 : partI M = 1) :
    ∃ z, mX8_looksForBest F s f1 f2 f3 f4 i1 i2 bA bM bF ih = some z ∧ R8 z.1 M ∧ z.2.2.2.2.2.2.2.1 = jI (exT M).1 ∧ z.2.2.2.2.2.2.2.2.1 = jI (exT M).2.1 ∧ z.2.2.2.2.2.2.2.2.2.1 = jI (exT M).2.2 := by
  have hd := hw.1
  have hN := dm_le hd
  unfold mX8_looksForBest
  have key := lpr_r (Q := fun z : nF × nF × nF × nF × nF × Int32 × Int32 × Int32 × Int32 × Int32 × nF => R8 z.1 M ∧ RV (exT M) z.2.2.2.2.2.2.2.1 z.2.2.2.2.2.2.2.2.1 z.2.2.2.2.2.2.2.2.2.1) (L := mX8_looksForBest_L8 F) (F := F)
    (fun k y => y.1 = jI (k : Nat) ∧ R8 y.2.1 M ∧ RV (exk M k) y.2.2.2.2.2.2.2.2.1 y.2.2.2.2.2.2.2.2.2.1 y.2.2.2.2.2.2.2.2.2.2.1) (2 * mN M) (x := ((0 : Int32), s, f1, f2, f3, f4, i1, i2, bA, bM, (1000000 : Int32), ih)) (by
    rintro k ⟨y0, ys, y1, y2, y3, y4, y5, y6, yA, yM, yF, yh⟩ hk ⟨e0, hR, hV⟩
    have e0 : y0 = jI (k : Nat) := e0
    subst e0
    have hR : R8 ys M := hR
    have hV : RV (exk M k) yA yM yF := hV
    have hce := cells8 hR
    by_cases e : k = 2 * mN M
    · left
      subst e
      refine ⟨(ys, y1, y2, y3, y4, y5, y6, yA, yM, yF, yh), ⟨hR, hV⟩, fun self => ?_⟩
      simp only [mX8_looksForBest_L8, hce, bnd_s, j2m]
      rw [nle_t (by omega) (by omega)]
    · right
      have hk2 : k < 2 * mN M := by omega
      have hS : exk M (k + 1) = if mO M k = true then exj M k (2 * mN M) (exk M k) else exk M k := rfl
      refine ⟨hk2, ?_⟩
      have hb1 : ∀ b : Bool, (jI (b01 b : Nat) = (1 : Int32)) ↔ b = true := by decide
      have hval := hR.2.2.2.2.2.2.2 k hk2
      cases ho : mO M k with
      | false =>
        refine ⟨(jI ((k + 1 : Nat) : Int), ys, y1, y2, y3, y4, y5, y6, yA, yM, yF, yh), ⟨rfl, hR, by rw [hS, ho, if_neg Bool.noConfusion]; exact hV⟩, fun self => ?_⟩
        simp only [mX8_looksForBest_L8, hce, bnd_s, j2m]
        rw [nle_f hk2 (by omega), j42p, gdi (by omega) (by omega)]
        simp only [jn_e, jcl (42 + k) (by omega), hval, ho, jS]
        rw [if_neg (by rw [hb1]; exact Bool.noConfusion)]
      | true =>
        have hR2 : R8 (upd ys (42 + k) (jI (b01 false : Nat))) (cutM M k) := R8_set hR hd hk2
        obtain ⟨z, z1, z2, z3⟩ := triesFor8 (f1 := y1) (f2 := y2) (f3 := y3) (f4 := y4) (i1 := y5) (i2 := y6) (ih := yh) hF hR2 hw h1 hk2 ho (exk_T k hk) hV
        have hR4 : R8 (upd z.1 (42 + k) (jI (b01 true : Nat))) M := by
          have := R8_set (t := true) z2 hd hk2
          have e5 : setO (cutM M k) (setE (mO (cutM M k)) k true) = M := by
            show (M.1, M.2.1, setE (setE (mO M) k false) k true, M.2.2.2) = M
            rw [setE_setE, setE_id ho]
            rfl
          rw [e5] at this
          exact this
        refine ⟨(jI ((k + 1 : Nat) : Int), upd z.1 (42 + k) (1 : Int32), z.2.1, z.2.2.1, z.2.2.2.1, z.2.2.2.2.1, z.2.2.2.2.2.1, z.2.2.2.2.2.2.1, z.2.2.2.2.2.2.2.1, z.2.2.2.2.2.2.2.2.1, z.2.2.2.2.2.2.2.2.2.1, z.2.2.2.2.2.2.2.2.2.2), ⟨rfl, hR4, by rw [hS, ho, if_pos rfl]; exact z3⟩, fun self => ?_⟩
        simp only [mX8_looksForBest_L8, hce, bnd_s, j2m]
        rw [nle_f hk2 (by omega), j42p, gdi (by omega) (by omega)]
        simp only [jn_e, jcl (42 + k) (by omega), hval, ho, jS, gdi (show 42 + k < 114 by omega) (show 114 < 100000 by omega)]
        rw [if_pos (by rw [hb1])]
        have z1' : mX8_triesFor F (upd ys (42 + k) (0 : Int32)) y1 y2 y3 y4 y5 y6 yA yM yF yh (jI (k : Nat)) = some z := z1
        rw [z1', bnd_s]) ⟨jl_0, h, ⟨j_1000000, fun z => absurd rfl z⟩⟩ (by omega)
  obtain ⟨z, ⟨z1, z2⟩, z3⟩ := key
  obtain ⟨k, j, g1, g2, g3, g4, g5⟩ := exT_found hw h1
  have := z2.2 (by rw [g5]; show (j : Int) ≠ -1; omega)
  exact ⟨z, z3, z1, this.1, this.2, z2.1⟩
end LK
end
section
/-! EXCHANGE, IMPROVE, BEST on both sides -/
noncomputable def betterB (M : Mz) : Bool := decide ((exT M).2.2 < faultI M (mX M))
noncomputable def impS (M : Mz) : Mz := xM M (exT M).1.toNat (exT M).2.1.toNat
noncomputable def impI (M : Mz) : Nat → Mz
  | 0 => M
  | j + 1 => impS (impI M j)
noncomputable def impN (M : Mz) : Nat := lowF (fun j => !(betterB (impI M j))) 325
section IM
variable {v : MZ} {w w1 w2 : WY} {ex : EX} {s : nF} {M : Mz} {c d F n i j k x y : Nat} {a : Int}
theorem impS_wf (hw : WF M) (h1 : partI M = 1) : WF (impS M) ∧ partI (impS M) = 1 ∧ faultI (impS M) (mX (impS M)) = (exT M).2.2 := by
  obtain ⟨k, j, g1, g2, g3, g4, g5⟩ := exT_found hw h1
  have e : impS M = xM M k j := by
    unfold impS
    rw [g5]
    show xM M ((k : Int)).toNat ((j : Int)).toNat = xM M k j
    rw [Int.toNat_natCast, Int.toNat_natCast]
  rw [e, g5]
  exact ⟨xM_wf hw g2 g4, by rw [xM_part hw g1 g3 g2 g4, h1], rfl⟩
theorem impI_wf (hw : WF M) (h1 : partI M = 1) : ∀ j, j ≤ impN M → WF (impI M j) ∧ partI (impI M j) = 1 ∧ faultI (impI M j) (mX (impI M j)) ≤ faultI M (mX M) - j := by
  intro j
  induction j with
  | zero => intro _; exact ⟨hw, h1, by simp [impI]⟩
  | succ j ih =>
    intro hj
    obtain ⟨i1, i2, i3⟩ := ih (by omega)
    obtain ⟨s1, s2, s3⟩ := impS_wf i1 i2
    refine ⟨s1, s2, ?_⟩
    show faultI (impS (impI M j)) (mX (impS (impI M j))) ≤ _
    rw [s3]
    have hb := (lowF_spec (f := fun j => !(betterB (impI M j))) 325).2.2 j hj
    have hb : betterB (impI M j) = true := by simpa using hb
    have := of_decide_eq_true hb
    omega
theorem impN_spec (hw : WF M) (h1 : partI M = 1) : impN M ≤ 324 ∧ betterB (impI M (impN M)) = false := by
  have hl := lowF_spec (f := fun j => !(betterB (impI M j))) 325
  have hX : mX M < mN M := hw.2.2.2.2.2.1.1
  have hf := fault_b hw.w2 hw.2.1 hX
  have hlt : impN M < 325 := by
    apply Classical.byContradiction
    intro q
    have h3 : impN M = 325 := by have := hl.2.1; unfold impN at q ⊢; omega
    obtain ⟨i1, i2, i3⟩ := impI_wf hw h1 325 (by omega)
    have hX2 : mX (impI M 325) < mN (impI M 325) := i1.2.2.2.2.2.1.1
    have := fault_b i1.w2 i1.2.1 hX2
    omega
  have hz : (!(betterB (impI M (impN M)))) = true := hl.1 hlt
  exact ⟨by omega, by simpa using hz⟩
theorem betterB_lt (hj : j < impN M) : betterB (impI M j) = true := by
  have := (lowF_spec (f := fun j => !(betterB (impI M j))) 325).2.2 j hj
  simpa using this
/-- the better exchange of the class -/
theorem findBetter3 (hF : 72 < F) (h : R3 v M) (hw : WF M) (h1 : partI M = 1) : ∃ g y1 y2, mX7_findBetterExchange F v w1 w2 ex = some (bI (betterB M), y1, y2, (jI (exT M).1, jI (exT M).2.1, jI (faultI M (mX M)), jI (exT M).2.2, jI (toneS M : Nat), g)) := by
  obtain ⟨g, y1, y2, hf⟩ := find3 (ex := ex) (w1 := w1) (w2 := w2) hF h hw h1
  have hX : mX M < mN M := hw.2.2.2.2.2.1.1
  have hfb := fault_b hw.w2 hw.2.1 hX
  obtain ⟨k, j, g1, g2, g3, g4, g5⟩ := exT_found hw h1
  have hxb := exF_b hw g2 g4
  have hN := dm_le hw.1
  refine ⟨g, y1, y2, ?_⟩
  unfold mX7_findBetterExchange
  rw [hf, bnd_s]
  simp only [jn_e]
  have e1 : (exT M).2.1 = (j : Int) := by rw [g5]
  have e2 : (exT M).2.2 = exF M k j := by rw [g5]
  rw [e1, e2, if_neg (by rw [nem1 (by omega)]; exact id)]
  unfold betterB
  rw [e2]
  by_cases q : exF M k j < faultI M (mX M)
  · rw [jle_f (by omega) (by omega) q, decide_eq_true q]; rfl
  · rw [jle_t (by omega) (by omega) (by omega), decide_eq_false q]; rfl
theorem apply3 {e : EX} (h : R3 v M) (hw : WF M) (h1 : partI M = 1) (he1 : e.1 = jI (exT M).1) (he2 : e.2.1 = jI (exT M).2.1) : ∃ p, mX1_apply e v = some p ∧ R3 (wP v p) (impS M) := by
  obtain ⟨k, j, g1, g2, g3, g4, g5⟩ := exT_found hw h1
  have hvk := hw.2.2.1 k g3
  have hvj := ((cand_t hw.w2 g2).mp g4).1
  obtain ⟨p1, a1, a2⟩ := setPlace3 (t := false) h hw.1 hvk
  obtain ⟨p2, b1, b2⟩ := setPlace3 (t := true) (M := setO M (setE (mO M) k false)) a2 hw.1 hvj
  have e5 : impS M = xM M k j := by
    unfold impS
    rw [g5]
    show xM M ((k : Int)).toNat ((j : Int)).toNat = xM M k j
    rw [Int.toNat_natCast, Int.toNat_natCast]
  refine ⟨p2, ?_, by rw [e5]; exact b2⟩
  unfold mX1_apply
  rw [he1, he2, g5]
  have a1' : mX3_setPlace v (jI (k : Nat)) (0 : Int32) = some p1 := a1
  show (mX3_setPlace v (jI (k : Nat)) (0 : Int32)).bind _ = _
  rw [a1', bnd_s]
  have b1' : mX3_setPlace (v.1, v.2.1, v.2.2.1, p1, v.2.2.2.2.1, v.2.2.2.2.2) (jI (j : Nat)) (1 : Int32) = some p2 := b1
  show (mX3_setPlace (v.1, v.2.1, v.2.2.1, p1, v.2.2.2.2.1, v.2.2.2.2.2) (jI (j : Nat)) (1 : Int32)).bind _ = _
  rw [b1', bnd_s]
theorem exchanges8 {bA bM : Int32} (h : R8 s M) (hw : WF M) (h1 : partI M = 1) (he1 : bA = jI (exT M).1) (he2 : bM = jI (exT M).2.1) : ∃ s', mX8_exchanges s bA bM = some s' ∧ R8 s' (impS M) := by
  have hN := dm_le hw.1
  obtain ⟨k, j, g1, g2, g3, g4, g5⟩ := exT_found hw h1
  have a1 := R8_set (t := false) h hw.1 g1
  have b1 := R8_set (t := true) (M := setO M (setE (mO M) k false)) a1 hw.1 g2
  have e5 : impS M = xM M k j := by
    unfold impS
    rw [g5]
    show xM M ((k : Int)).toNat ((j : Int)).toNat = xM M k j
    rw [Int.toNat_natCast, Int.toNat_natCast]
  refine ⟨upd (upd s (42 + k) (0 : Int32)) (42 + j) (1 : Int32), ?_, by rw [e5]; exact b1⟩
  unfold mX8_exchanges
  have e1 : (exT M).1 = (k : Int) := by rw [g5]
  have e2 : (exT M).2.1 = (j : Int) := by rw [g5]
  rw [he1, he2, e1, e2, j42p, j42p, gdi (by omega) (by omega), gdi (by omega) (by omega), jcl _ (by omega), jcl _ (by omega)]
noncomputable def bestA (M : Mz) (a : Int) : Int := if 0 ≤ a ∧ a ≤ 2 then (if partI M = 1 then (if a = 0 then (exT M).1 else if a = 1 then (exT M).2.1 else (exT M).2.2) else -2) else -1
theorem best3 (hF : 72 < F) (h : R3 v M) (hw : WF M) (ha : -2147483648 ≤ a ∧ a < 2147483648) : ∃ z, mX7_best F v w1 w2 ex (jI a) = some (jI (bestA M a), z) := by
  unfold mX7_best bestA
  simp only [jn_e]
  by_cases h0 : a < 0
  · rw [j_0, jlt_t ha (by omega) h0, if_neg (by omega)]; exact ⟨_, rfl⟩
  · rw [j_0, jlt_f ha (by omega) (by omega), j_2]
    by_cases h2 : a ≤ 2
    · rw [jle_t ha (by omega) h2, if_pos (by omega), isWhole3 (by omega) h hw.1 hw.2.2.1, bnd_s, ← j_0, ifb]
      by_cases h1 : partI M = 1
      · obtain ⟨g, y1, y2, hf⟩ := find3 (ex := ex) (w1 := w1) (w2 := w2) hF h hw h1
        rw [if_pos (decide_eq_true h1), if_pos h1, hf, bnd_s, choose3 ha, bnd_s]
        refine ⟨(y1, y2, (jI (exT M).1, jI (exT M).2.1, jI (faultI M (mX M)), jI (exT M).2.2, jI (toneS M : Nat), g)), ?_⟩
        by_cases q : a = 0
        · rw [if_pos q, if_pos q]
        · rw [if_neg q, if_neg q]
          by_cases q1 : a = 1
          · rw [if_pos q1, if_pos q1]
          · rw [if_neg q1, if_neg q1]
      · rw [if_neg (by rw [decide_eq_false h1]; exact Bool.noConfusion), if_neg h1]
        exact ⟨_, rfl⟩
    · rw [jle_f ha (by omega) (by omega), if_neg (by omega)]; exact ⟨_, rfl⟩
theorem best8 {f1 f2 f3 f4 ih : nF} {i1 i2 bA bM bF : Int32} (hF : 72 < F) (h : R8 s M) (hw : WF M) (ha : -2147483648 ≤ a ∧ a < 2147483648) : ∃ s' z, mX8_best F s f1 f2 f3 f4 i1 i2 bA bM bF ih (jI a) = some (jI (bestA M a), s', z) ∧ R8 s' M := by
  unfold mX8_best bestA
  rw [j_0, j_2, in8 ha (by omega) (by omega), bnd_s, ← j_0, ifb]
  by_cases h0 : 0 ≤ a ∧ a ≤ 2
  · rw [if_pos (decide_eq_true h0), if_pos h0, isWhole8 (by omega) h hw.1, bnd_s, ifb]
    by_cases h1 : partI M = 1
    · obtain ⟨z, z1, z2, z3, z4, z5⟩ := looks8 (f1 := f1) (f2 := f2) (f3 := f3) (f4 := f4) (i1 := i1) (i2 := i2) (bA := bA) (bM := bM) (bF := bF) (ih := ih) hF h hw h1
      rw [if_pos (decide_eq_true h1), if_pos h1, z1, bnd_s]
      simp only [jn_e]
      refine ⟨z.1, (z.2.1, z.2.2.1, z.2.2.2.1, z.2.2.2.2.1, z.2.2.2.2.2.1, z.2.2.2.2.2.2.1, z.2.2.2.2.2.2.2.1, z.2.2.2.2.2.2.2.2.1, z.2.2.2.2.2.2.2.2.2.1, z.2.2.2.2.2.2.2.2.2.2), ?_, z2⟩
      by_cases q : a = 0
      · rw [j_0, jeq_t q, if_pos q, z3]
      · rw [j_0, jeq_f ha (by omega) q, if_neg q]
        by_cases q1 : a = 1
        · rw [j_1, jeq_t q1, if_pos q1, z4]
        · rw [j_1, jeq_f ha (by omega) q1, if_neg q1, z5]
    · rw [if_neg (by rw [decide_eq_false h1]; exact Bool.noConfusion), if_neg h1]
      exact ⟨_, _, rfl, h⟩
  · rw [if_neg (by rw [decide_eq_false h0]; exact Bool.noConfusion), if_neg h0]
    exact ⟨_, _, rfl, h⟩
/-- improving of the class -/
theorem improve_in3 {hs : HS} (hF : 324 < F) (h : R3 v M) (hw : WF M) (h1 : partI M = 1) : ∃ p z, lpr (mX7_improve_L30 F v (mX7_improve_K59 hs)) F ((0 : Int32), v.2.2.2.1, w1, w2, ex) = some (jI (impN M : Nat), p, hs, z) ∧ R3 (wP v p) (impI M (impN M)) := by
  obtain ⟨m1, m2⟩ := impN_spec hw h1
  have key := lpr_r (Q := fun z : Int32 × nF × HS × WY × WY × EX => z.1 = jI (impN M : Nat) ∧ z.2.2.1 = hs ∧ R3 (wP v z.2.1) (impI M (impN M))) (L := mX7_improve_L30 F v (mX7_improve_K59 hs)) (F := F)
    (fun j y => y.1 = jI (j : Nat) ∧ j ≤ impN M ∧ R3 (wP v y.2.1) (impI M j)) 324 (x := ((0 : Int32), v.2.2.2.1, w1, w2, ex)) (by
    rintro j ⟨y0, yp, y1, y2, ye⟩ hj ⟨e0, e1, hR⟩
    have e0 : y0 = jI (j : Nat) := e0
    subst e0
    have hR : R3 (wP v yp) (impI M j) := hR
    obtain ⟨i1, i2, i3⟩ := impI_wf hw h1 j e1
    by_cases e : j = 324
    · left
      subst e
      have em : impN M = 324 := by omega
      refine ⟨(jI ((324 : Nat) : Int), yp, hs, y1, y2, ye), ⟨by rw [em], rfl, by rw [em]; exact hR⟩, fun self => ?_⟩
      simp only [mX7_improve_L30, jl_324]
      rw [nle_t (Nat.le_refl _) (by omega)]; rfl
    · have hj2 : j < 324 := by omega
      obtain ⟨g, z1, z2, hfb⟩ := findBetter3 (F := F) (w1 := y1) (w2 := y2) (ex := ye) (by omega) hR i1 i2
      have hfb' : mX7_findBetterExchange F (v.1, v.2.1, v.2.2.1, yp, v.2.2.2.2.1, v.2.2.2.2.2) y1 y2 ye = _ := hfb
      cases hb : betterB (impI M j) with
      | false =>
        left
        have em : impN M = j := by
          apply Classical.byContradiction
          intro q
          have := betterB_lt (M := M) (j := j) (by omega)
          rw [hb] at this; cases this
        refine ⟨(jI (j : Nat), yp, hs, z1, z2, (jI (exT (impI M j)).1, jI (exT (impI M j)).2.1, jI (faultI (impI M j) (mX (impI M j))), jI (exT (impI M j)).2.2, jI (toneS (impI M j) : Nat), g)), ⟨by rw [em], rfl, by rw [em]; exact hR⟩, fun self => ?_⟩
        simp only [mX7_improve_L30, jl_324]
        rw [nle_f hj2 (by omega), hfb', bnd_s, hb]
        rw [if_pos (show bI false = 0 from rfl)]; rfl
      | true =>
        right
        have hlt : j < impN M := by
          apply Classical.byContradiction
          intro q
          have : j = impN M := by omega
          rw [this, m2] at hb; cases hb
        obtain ⟨p, p1, p2⟩ := apply3 (e := (jI (exT (impI M j)).1, jI (exT (impI M j)).2.1, jI (faultI (impI M j) (mX (impI M j))), jI (exT (impI M j)).2.2, jI (toneS (impI M j) : Nat), g)) hR i1 i2 rfl rfl
        have p1' : mX1_apply (jI (exT (impI M j)).1, jI (exT (impI M j)).2.1, jI (faultI (impI M j) (mX (impI M j))), jI (exT (impI M j)).2.2, jI (toneS (impI M j) : Nat), g) (v.1, v.2.1, v.2.2.1, yp, v.2.2.2.2.1, v.2.2.2.2.2) = some p := p1
        refine ⟨hj2, (jI ((j + 1 : Nat) : Int), p, z1, z2, (jI (exT (impI M j)).1, jI (exT (impI M j)).2.1, jI (faultI (impI M j) (mX (impI M j))), jI (exT (impI M j)).2.2, jI (toneS (impI M j) : Nat), g)), ⟨rfl, by omega, p2⟩, fun self => ?_⟩
        simp only [mX7_improve_L30, jl_324]
        rw [nle_f hj2 (by omega), hfb', bnd_s, hb]
        rw [if_neg bIt0]
        show (mX1_apply (jI (exT (impI M j)).1, jI (exT (impI M j)).2.1, jI (faultI (impI M j) (mX (impI M j))), jI (exT (impI M j)).2.2, jI (toneS (impI M j) : Nat), g) (v.1, v.2.1, v.2.2.1, yp, v.2.2.2.2.1, v.2.2.2.2.2)).bind _ = _
        rw [p1', bnd_s, jS]) ⟨jl_0, by omega, h⟩ (by omega)
  obtain ⟨z, ⟨z1, z2, z3⟩, z4⟩ := key
  refine ⟨z.2.1, z.2.2.2, ?_, z3⟩
  rw [z4, ← z1, ← z2]
theorem improve_in8 {f1 f2 f3 f4 ih : nF} {i1 i2 bA bM bF : Int32} {j5 : (Int32 × nF × nF × nF × nF × nF × Int32 × Int32 × Int32 × Int32 × Int32 × nF) → Option (Int32 × nF × nF × nF × Int32 × nF × nF × nF × nF × Int32 × Int32 × Int32 × Int32 × Int32 × nF)} (hF : 324 < F) (h : R8 s M) (hw : WF M) (h1 : partI M = 1) (hA : bA = jI (exT M).1) (hM : bM = jI (exT M).2.1) (hB : bF = jI (exT M).2.2) :
    ∃ z : Int32 × nF × nF × nF × nF × nF × Int32 × Int32 × Int32 × Int32 × Int32 × nF, lpr (mX8_improve_L20 F j5) F ((0 : Int32), s, f1, f2, f3, f4, i1, i2, bA, bM, bF, ih) = j5 z ∧ z.1 = jI (impN M : Nat) ∧ R8 z.2.1 (impI M (impN M)) := by
  obtain ⟨m1, m2⟩ := impN_spec hw h1
  have key := lpr_j (Q := fun z : Int32 × nF × nF × nF × nF × nF × Int32 × Int32 × Int32 × Int32 × Int32 × nF => z.1 = jI (impN M : Nat) ∧ R8 z.2.1 (impI M (impN M))) (L := fun j5 => mX8_improve_L20 F j5) (F := F)
    (fun j y => y.1 = jI (j : Nat) ∧ j ≤ impN M ∧ R8 y.2.1 (impI M j) ∧ y.2.2.2.2.2.2.2.2.1 = jI (exT (impI M j)).1 ∧ y.2.2.2.2.2.2.2.2.2.1 = jI (exT (impI M j)).2.1 ∧ y.2.2.2.2.2.2.2.2.2.2.1 = jI (exT (impI M j)).2.2) 324 (x := ((0 : Int32), s, f1, f2, f3, f4, i1, i2, bA, bM, bF, ih)) (by
    rintro j ⟨y0, ys, y1, y2, y3, y4, y5, y6, yA, yM, yF, yh⟩ hj ⟨e0, e1, hR, eA, eM, eF⟩
    have e0 : y0 = jI (j : Nat) := e0
    have hR : R8 ys (impI M j) := hR
    have eA : yA = jI (exT (impI M j)).1 := eA
    have eM : yM = jI (exT (impI M j)).2.1 := eM
    have eF : yF = jI (exT (impI M j)).2.2 := eF
    subst e0; subst eA; subst eM; subst eF
    obtain ⟨i1, i2, i3⟩ := impI_wf hw h1 j e1
    have hE2 : mE (impI M j) < mN (impI M j) := i1.2.2.2.2.1.1
    have hX2 : mX (impI M j) < mN (impI M j) := i1.2.2.2.2.2.1.1
    have hfb := fault_b i1.w2 i1.2.1 hX2
    obtain ⟨kk, jj, g1, g2, g3, g4, g5⟩ := exT_found i1 i2
    have hxb := exF_b i1 g2 g4
    have e2 : (exT (impI M j)).2.2 = exF (impI M j) kk jj := by rw [g5]
    obtain ⟨u, u1, u2⟩ := wayFault8 (f0 := y1) (q0 := y2) (o0 := y3) (st0 := y4) (wc := y5) (tu := y6) (F := F) (by omega) hR i1.w2 hX2 hE2
    cases hb : betterB (impI M j) with
    | false =>
      left
      have em : impN M = j := by
        apply Classical.byContradiction
        intro q
        have := betterB_lt (M := M) (j := j) (by omega)
        rw [hb] at this; cases this
      have hnb := of_decide_eq_false hb
      refine ⟨(jI (j : Nat), ys, u.2.1, u.2.2.1, u.2.2.2.1, u.2.2.2.2.1, u.2.2.2.2.2.1, u.2.2.2.2.2.2, jI (exT (impI M j)).1, jI (exT (impI M j)).2.1, jI (exT (impI M j)).2.2, yh), ⟨by rw [em], by rw [em]; exact hR⟩, fun j5 self => ?_⟩
      simp only [mX8_improve_L20, u1, bnd_s, u2]
      rw [jle_t (by omega) (by omega) (by omega)]
    | true =>
      right
      have hlt : j < impN M := by
        apply Classical.byContradiction
        intro q
        have : j = impN M := by omega
        rw [this, m2] at hb; cases hb
      have hbt := of_decide_eq_true hb
      obtain ⟨s', s1, s2⟩ := exchanges8 hR i1 i2 rfl rfl
      obtain ⟨q1, q2, q3⟩ := impS_wf i1 i2
      obtain ⟨z, z1, z2, z3, z4, z5⟩ := looks8 (f1 := u.2.1) (f2 := u.2.2.1) (f3 := u.2.2.2.1) (f4 := u.2.2.2.2.1) (i1 := u.2.2.2.2.2.1) (i2 := u.2.2.2.2.2.2) (bA := jI (exT (impI M j)).1) (bM := jI (exT (impI M j)).2.1) (bF := jI (exT (impI M j)).2.2) (ih := yh) (F := F) (by omega) s2 q1 q2
      refine ⟨by omega, (jI ((j + 1 : Nat) : Int), z.1, z.2.1, z.2.2.1, z.2.2.2.1, z.2.2.2.2.1, z.2.2.2.2.2.1, z.2.2.2.2.2.2.1, z.2.2.2.2.2.2.2.1, z.2.2.2.2.2.2.2.2.1, z.2.2.2.2.2.2.2.2.2.1, z.2.2.2.2.2.2.2.2.2.2), ⟨rfl, by omega, z2, z3, z4, z5⟩, fun j5 self => ?_⟩
      simp only [mX8_improve_L20, u1, bnd_s, u2, s1, z1, jS]
      rw [jle_f (by omega) (by omega) (by omega)]) ⟨jl_0, by omega, h, hA, hM, hB⟩ (by omega)
  obtain ⟨z, ⟨z1, z2⟩, z3⟩ := key
  exact ⟨z, z3 j5, z1, z2⟩
end IM
end
section
/-! TEXTS as pictures on both sides -/
/-- reason, place, columns, rows, cells in the row, behind k characters -/
def scn (ch : Nat → Nat) : Nat → (Nat × Nat × Nat × Nat × Nat)
  | 0 => (0, 0, 0, 1, 0)
  | k + 1 => if (scn ch k).1 ≠ 0 then scn ch k else
      if 48 ≤ ch k ∧ ch k ≤ 57 then
        (if (scn ch k).2.2.2.1 = 1 ∧ (scn ch k).2.2.2.2 = 6 then (2, k, (scn ch k).2.2)
         else if 1 < (scn ch k).2.2.2.1 ∧ (scn ch k).2.2.2.2 = (scn ch k).2.2.1 then (1, k, (scn ch k).2.2)
         else (0, 0, (if (scn ch k).2.2.2.1 = 1 then (scn ch k).2.2.2.2 + 1 else (scn ch k).2.2.1), (scn ch k).2.2.2.1, (scn ch k).2.2.2.2 + 1))
      else if ch k = 47 ∧ 0 < (scn ch k).2.2.2.2 ∧ (scn ch k).2.2.2.2 = (scn ch k).2.2.1 then
        (if (scn ch k).2.2.2.1 = 6 then (3, k, (scn ch k).2.2) else (0, 0, (scn ch k).2.2.1, (scn ch k).2.2.2.1 + 1, 0))
      else (1, k, (scn ch k).2.2)
/-- reason and place of the whole text -/
def fin (ch : Nat → Nat) (L : Nat) : Nat × Nat := if (scn ch L).1 ≠ 0 then ((scn ch L).1, (scn ch L).2.1) else
  if ¬ (0 < (scn ch L).2.2.2.2 ∧ (scn ch L).2.2.2.2 = (scn ch L).2.2.1) then (1, L) else
  if (scn ch L).2.2.1 = 1 ∨ (scn ch L).2.2.2.1 = 1 then (4, L) else (0, 0)
def dgt (c : Nat) : Prop := 48 ≤ c ∧ c ≤ 57
/-- what holds while there is no fault -/
def okS (ch : Nat → Nat) (k : Nat) (t : Nat × Nat × Nat × Nat × Nat) : Prop :=
  t.2.1 = 0 ∧ t.2.2.1 ≤ 6 ∧ 1 ≤ t.2.2.2.1 ∧ t.2.2.2.1 ≤ 6 ∧ t.2.2.2.2 ≤ t.2.2.1 ∧
  ((t.2.2.2.1 = 1 ∧ t.2.2.1 = k ∧ t.2.2.2.2 = k ∧ ∀ i, i < k → dgt (ch i)) ∨
   (1 < t.2.2.2.1 ∧ 1 ≤ t.2.2.1 ∧ k = (t.2.2.2.1 - 1) * (t.2.2.1 + 1) + t.2.2.2.2 ∧ ∀ i, i < k → (i % (t.2.2.1 + 1) = t.2.2.1 → ch i = 47) ∧ (i % (t.2.2.1 + 1) ≠ t.2.2.1 → dgt (ch i))))
theorem scn_ok {ch : Nat → Nat} : ∀ k, (scn ch k).1 = 0 → okS ch k (scn ch k) := by
  intro k
  induction k with
  | zero =>
    intro _
    have e0 : scn ch 0 = (0, 0, 0, 1, 0) := rfl
    rw [e0]
    exact ⟨rfl, by show 0 ≤ 6; omega, by show 1 ≤ 1; omega, by show 1 ≤ 6; omega, by show 0 ≤ 0; omega, Or.inl ⟨rfl, rfl, rfl, fun i hi => by omega⟩⟩
  | succ k ih =>
    intro h
    have hS : scn ch (k + 1) = if (scn ch k).1 ≠ 0 then scn ch k else
      if 48 ≤ ch k ∧ ch k ≤ 57 then
        (if (scn ch k).2.2.2.1 = 1 ∧ (scn ch k).2.2.2.2 = 6 then (2, k, (scn ch k).2.2)
         else if 1 < (scn ch k).2.2.2.1 ∧ (scn ch k).2.2.2.2 = (scn ch k).2.2.1 then (1, k, (scn ch k).2.2)
         else (0, 0, (if (scn ch k).2.2.2.1 = 1 then (scn ch k).2.2.2.2 + 1 else (scn ch k).2.2.1), (scn ch k).2.2.2.1, (scn ch k).2.2.2.2 + 1))
      else if ch k = 47 ∧ 0 < (scn ch k).2.2.2.2 ∧ (scn ch k).2.2.2.2 = (scn ch k).2.2.1 then
        (if (scn ch k).2.2.2.1 = 6 then (3, k, (scn ch k).2.2) else (0, 0, (scn ch k).2.2.1, (scn ch k).2.2.2.1 + 1, 0))
      else (1, k, (scn ch k).2.2) := rfl
    rw [hS] at h ⊢
    by_cases h0 : (scn ch k).1 ≠ 0
    · rw [if_pos h0] at h
      exact absurd h h0
    · rw [if_neg h0] at h ⊢
      obtain ⟨a1, a2, a3, a4, a5, a6⟩ := ih (by omega)
      generalize scn ch k = t at *
      obtain ⟨r, p, w, n, j⟩ := t
      simp only at a1 a2 a3 a4 a5 a6 h0 h ⊢
      by_cases hd : 48 ≤ ch k ∧ ch k ≤ 57
      · rw [if_pos hd] at h ⊢
        by_cases q1 : n = 1 ∧ j = 6
        · rw [if_pos q1] at h; exact absurd h (show ¬ ((2 : Nat) = 0) by decide)
        · rw [if_neg q1] at h ⊢
          by_cases q2 : 1 < n ∧ j = w
          · rw [if_pos q2] at h; exact absurd h (show ¬ ((1 : Nat) = 0) by decide)
          · rw [if_neg q2]
            rcases a6 with ⟨b1, b2, b3, b4⟩ | ⟨b1, b2, b3, b4⟩
            · refine ⟨rfl, ?_, ?_, ?_, ?_, Or.inl ⟨b1, ?_, ?_, fun i hi => ?_⟩⟩
              · show (if n = 1 then j + 1 else w) ≤ 6; rw [if_pos b1]; omega
              · show 1 ≤ n; omega
              · show n ≤ 6; omega
              · show j + 1 ≤ (if n = 1 then j + 1 else w); rw [if_pos b1]; omega
              · show (if n = 1 then j + 1 else w) = k + 1; rw [if_pos b1]; omega
              · show j + 1 = k + 1; omega
              · by_cases e : i = k
                · subst e; exact hd
                · exact b4 i (by omega)
            · have hw : w = 1 ∨ w = 2 ∨ w = 3 ∨ w = 4 ∨ w = 5 ∨ w = 6 := by omega
              refine ⟨rfl, ?_, ?_, ?_, ?_, Or.inr ⟨?_, ?_, ?_, fun i hi => ?_⟩⟩
              · show (if n = 1 then j + 1 else w) ≤ 6; rw [if_neg (by omega)]; omega
              · show 1 ≤ n; omega
              · show n ≤ 6; omega
              · show j + 1 ≤ (if n = 1 then j + 1 else w); rw [if_neg (by omega)]; omega
              · show 1 < n; omega
              · show 1 ≤ (if n = 1 then j + 1 else w); rw [if_neg (by omega)]; omega
              · show k + 1 = (n - 1) * ((if n = 1 then j + 1 else w) + 1) + (j + 1); rw [if_neg (by omega)]; omega
              · show (i % ((if n = 1 then j + 1 else w) + 1) = (if n = 1 then j + 1 else w) → ch i = 47) ∧ (i % ((if n = 1 then j + 1 else w) + 1) ≠ (if n = 1 then j + 1 else w) → dgt (ch i))
                rw [if_neg (show ¬ n = 1 by omega)]
                by_cases e : i = k
                · subst e
                  refine ⟨fun z => ?_, fun _ => hd⟩
                  exfalso
                  rcases hw with rfl | rfl | rfl | rfl | rfl | rfl <;> omega
                · exact b4 i (by omega)
      · rw [if_neg hd] at h ⊢
        by_cases q1 : ch k = 47 ∧ 0 < j ∧ j = w
        · rw [if_pos q1] at h ⊢
          by_cases q2 : n = 6
          · rw [if_pos q2] at h; exact absurd h (show ¬ ((3 : Nat) = 0) by decide)
          · rw [if_neg q2]
            rcases a6 with ⟨b1, b2, b3, b4⟩ | ⟨b1, b2, b3, b4⟩
            · refine ⟨rfl, ?_, ?_, ?_, ?_, Or.inr ⟨?_, ?_, ?_, fun i hi => ?_⟩⟩
              · show w ≤ 6; omega
              · show 1 ≤ n + 1; omega
              · show n + 1 ≤ 6; omega
              · show 0 ≤ w; omega
              · show 1 < n + 1; omega
              · show 1 ≤ w; omega
              · show k + 1 = (n + 1 - 1) * (w + 1) + 0; rw [b1]; omega
              · show (i % (w + 1) = w → ch i = 47) ∧ (i % (w + 1) ≠ w → dgt (ch i))
                by_cases e : i = k
                · subst e
                  refine ⟨fun _ => q1.1, fun z => ?_⟩
                  exfalso
                  rw [Nat.mod_eq_of_lt (by omega)] at z
                  omega
                · rw [Nat.mod_eq_of_lt (by omega)]
                  exact ⟨fun z => by omega, fun _ => b4 i (by omega)⟩
            · have hw : w = 1 ∨ w = 2 ∨ w = 3 ∨ w = 4 ∨ w = 5 ∨ w = 6 := by omega
              refine ⟨rfl, ?_, ?_, ?_, ?_, Or.inr ⟨?_, ?_, ?_, fun i hi => ?_⟩⟩
              · show w ≤ 6; omega
              · show 1 ≤ n + 1; omega
              · show n + 1 ≤ 6; omega
              · show 0 ≤ w; omega
              · show 1 < n + 1; omega
              · show 1 ≤ w; omega
              · show k + 1 = (n + 1 - 1) * (w + 1) + 0
                rcases hw with rfl | rfl | rfl | rfl | rfl | rfl <;> omega
              · show (i % (w + 1) = w → ch i = 47) ∧ (i % (w + 1) ≠ w → dgt (ch i))
                by_cases e : i = k
                · subst e
                  refine ⟨fun _ => q1.1, fun z => ?_⟩
                  exfalso
                  apply z
                  rcases hw with rfl | rfl | rfl | rfl | rfl | rfl <;> omega
                · exact b4 i (by omega)
        · rw [if_neg q1] at h; exact absurd h (show ¬ ((1 : Nat) = 0) by decide)
theorem scn_st {ch : Nat → Nat} {k : Nat} (h : (scn ch k).1 ≠ 0) : ∀ m, scn ch (k + m) = scn ch k := by
  intro m
  induction m with
  | zero => rfl
  | succ m ih =>
    show scn ch ((k + m) + 1) = _
    have : scn ch ((k + m) + 1) = scn ch (k + m) := by
      rw [scn, if_pos (by rw [ih]; exact h)]
    rw [this, ih]
/-- bounds of all parts of the state -/
theorem scn_b {ch : Nat → Nat} : ∀ k, (scn ch k).1 ≤ 3 ∧ (scn ch k).2.1 ≤ k ∧ (scn ch k).2.2.1 ≤ 6 ∧ (scn ch k).2.2.2.1 ≤ 6 ∧ (scn ch k).2.2.2.2 ≤ 6 := by
  intro k
  induction k with
  | zero =>
    have e0 : scn ch 0 = (0, 0, 0, 1, 0) := rfl
    rw [e0]
    exact ⟨by show 0 ≤ 3; omega, by show 0 ≤ 0; omega, by show 0 ≤ 6; omega, by show 1 ≤ 6; omega, by show 0 ≤ 6; omega⟩
  | succ k ih =>
    by_cases h : (scn ch (k + 1)).1 = 0
    · obtain ⟨a1, a2, a3, a4, a5, -⟩ := scn_ok _ h
      exact ⟨by omega, by omega, a2, a4, by omega⟩
    · rw [scn] at h ⊢
      obtain ⟨b1, b2, b3, b4, b5⟩ := ih
      by_cases h0 : (scn ch k).1 ≠ 0
      · rw [if_pos h0]; exact ⟨b1, by omega, b3, b4, b5⟩
      · rw [if_neg h0] at h ⊢
        split
        · split
          · exact ⟨by show 2 ≤ 3; omega, by show k ≤ k + 1; omega, b3, b4, b5⟩
          · split
            · exact ⟨by show 1 ≤ 3; omega, by show k ≤ k + 1; omega, b3, b4, b5⟩
            · rename_i q0 q1 q2
              rw [if_pos q0, if_neg q1, if_neg q2] at h
              exact absurd rfl h
        · split
          · split
            · exact ⟨by show 3 ≤ 3; omega, by show k ≤ k + 1; omega, b3, b4, b5⟩
            · rename_i q0 q1 q2
              rw [if_neg q0, if_pos q1, if_neg q2] at h
              exact absurd rfl h
          · exact ⟨by show 1 ≤ 3; omega, by show k ≤ k + 1; omega, b3, b4, b5⟩
section TX
variable {pt : PT} {text : nF} {ch : Nat → Nat} {L F k : Nat} {a : Int}
def TX (pt : PT) (text : nF) (L : Nat) (ch : Nat → Nat) : Prop := pt.1 = jI (L : Nat) ∧ L ≤ 60 ∧ ∀ i, i < L → pt.2.2.2.1 i = jI (ch i : Nat) ∧ text i = jI (ch i : Nat) ∧ 32 ≤ ch i ∧ ch i ≤ 126
def LK3 (ch : Nat → Nat) (L : Nat) (z : Int32 × Int32 × Int32 × Int32 × Int32) : Prop := z.1 = jI ((fin ch L).2 : Nat) ∧ z.2.1 = jI ((fin ch L).1 : Nat) ∧ z.2.2.1 = jI ((scn ch L).2.2.1 : Nat) ∧ z.2.2.2.1 = jI ((scn ch L).2.2.2.1 : Nat)
/-- one character, class -/
theorem look_st (h : TX pt text L ch) {t : Nat × Nat × Nat × Nat × Nat} (hk : k < L) (ht : t = scn ch k) (h0 : t.1 = 0) (j2 : (Int32 × Int32 × Int32 × Int32 × Int32) → Option (Int32 × Int32 × Int32 × Int32 × Int32)) (self : (Int32 × Int32 × Int32 × Int32 × Int32 × Int32) → Option (Int32 × Int32 × Int32 × Int32 × Int32)) :
    mX4_look_L27 pt j2 self (jI (k : Nat), jI (t.2.1 : Nat), jI (t.1 : Nat), jI (t.2.2.1 : Nat), jI (t.2.2.2.1 : Nat), jI (t.2.2.2.2 : Nat)) = self (jI ((k + 1 : Nat) : Int), jI ((scn ch (k + 1)).2.1 : Nat), jI ((scn ch (k + 1)).1 : Nat), jI ((scn ch (k + 1)).2.2.1 : Nat), jI ((scn ch (k + 1)).2.2.2.1 : Nat), jI ((scn ch (k + 1)).2.2.2.2 : Nat)) := by
  obtain ⟨h1, h2, h3⟩ := h
  obtain ⟨c1, c2, c3, c4⟩ := h3 k hk
  have hok := scn_ok (ch := ch) k (by rw [← ht]; exact h0)
  rw [scn, ← ht]
  rw [← ht] at hok
  obtain ⟨r, p, w, n, j⟩ := t
  obtain ⟨a1, a2, a3, a4, a5, a6⟩ := hok
  simp only at a1 a2 a3 a4 a5 a6 h0 ⊢
  subst h0; subst a1
  rw [if_neg (by simp)]
  simp only [mX4_look_L27, h1]
  rw [nle_f hk (by omega), if_pos (by decide), at_i (by omega) (by omega), bnd_s, c1]
  simp only [jn_e]
  rw [jl_48, jl_57, show (47 : Int32) = jI ((47 : Nat) : Int) from jl_47]
  by_cases hd : 48 ≤ ch k ∧ ch k ≤ 57
  · rw [nlt_f hd.1 (by omega), nlt_f hd.2 (by omega), if_pos hd]
    simp only [mX4_lookAtDigit, mX4_blame, jn_e, bnd_s, jS, jl_6]
    by_cases q1 : n = 1
    · rw [show (1 : Int32) = jI ((1 : Nat) : Int) from jl_1, neq_t q1]
      by_cases q2 : j = 6
      · rw [neq_t q2, if_pos (show n = 1 ∧ j = 6 from ⟨q1, q2⟩)]
        simp only [bnd_s]; rfl
      · rw [neq_f q2 (by omega) (by omega), if_neg (show ¬ (n = 1 ∧ j = 6) from fun z => q2 z.2), nle_t (by omega) (by omega), if_neg (show ¬ (1 < n ∧ j = w) by omega)]
        simp only [bnd_s]
        rw [if_pos q1]
        have hwj : w = j := by rcases a6 with ⟨b1, b2, b3, b4⟩ | ⟨b1, b2, b3, b4⟩ <;> omega
        rw [nlt_t (show w < j + 1 by omega) (by omega)]
    · rw [show (1 : Int32) = jI ((1 : Nat) : Int) from jl_1, neq_f q1 (by omega) (by omega), nle_f (by omega) (by omega)]
      by_cases q2 : j = w
      · rw [neq_t q2, if_neg (show ¬ (n = 1 ∧ j = 6) from fun z => q1 z.1), if_pos (show 1 < n ∧ j = w from ⟨by omega, q2⟩)]
        simp only [bnd_s]
      · rw [neq_f q2 (by omega) (by omega), if_neg (show ¬ (n = 1 ∧ j = 6) from fun z => q1 z.1), if_neg (show ¬ (1 < n ∧ j = w) from fun z => q2 z.2)]
        simp only [bnd_s]
        rw [if_neg q1, nlt_f (show j + 1 ≤ w by omega) (by omega)]
  · have hnd : ∀ (A B : Option (Int32 × Int32 × Int32 × Int32 × Int32)), (if jI (ch k : Nat) < jI ((48 : Nat) : Int) then A else if jI ((57 : Nat) : Int) < jI (ch k : Nat) then A else B) = A := by
      intro A B
      by_cases z : ch k < 48
      · rw [nlt_t z (by omega)]
      · rw [nlt_f (by omega) (by omega), nlt_t (by omega) (by omega)]
    rw [hnd, if_neg hd]
    by_cases q0 : ch k = 47
    · rw [neq_t q0]
      simp only [mX4_lookAtSlash, mX4_isRowFull, mX4_blame, jn_e, bnd_s, jS, jl_6]
      by_cases q1 : 0 < j
      · rw [if_neg (show ¬ (jI (j : Nat) ≤ 0) by rw [nle0 (by omega)]; omega)]
        by_cases q2 : j = w
        · rw [neq_t q2, gz1, bnd_s, if_neg (show ¬ ((1 : Int32) = 0) by decide), if_pos (show ch k = 47 ∧ 0 < j ∧ j = w from ⟨q0, q1, q2⟩)]
          by_cases q3 : n = 6
          · rw [neq_t q3, if_pos q3]
            simp only [bnd_s]; rfl
          · rw [neq_f q3 (by omega) (by omega), if_neg q3]
            simp only [bnd_s]; rfl
        · rw [neq_f q2 (by omega) (by omega), gz0, bnd_s, if_pos (show (0 : Int32) = 0 from rfl), if_neg (show ¬ (ch k = 47 ∧ 0 < j ∧ j = w) from fun z => q2 z.2.2)]
          simp only [bnd_s]; rfl
      · rw [if_pos (show jI (j : Nat) ≤ 0 by rw [nle0 (by omega)]; omega), gz0, bnd_s, if_pos (show (0 : Int32) = 0 from rfl), if_neg (show ¬ (ch k = 47 ∧ 0 < j ∧ j = w) from fun z => q1 z.2.1)]
        simp only [bnd_s]; rfl
    · rw [neq_f q0 (by omega) (by omega), if_neg (show ¬ (ch k = 47 ∧ 0 < j ∧ j = w) from fun z => q0 z.1)]
      simp only [mX4_blame, bnd_s, jS]
      rfl
theorem look3 (hF : 60 < F) (h : TX pt text L ch) : ∃ z, mX4_look F pt = some z ∧ LK3 ch L z := by
  have hL := h.2.1
  have hsb := scn_b (ch := ch) L
  unfold mX4_look
  simp only [jn_e]
  -- the end of the loop
  have hend : ∀ t : Nat × Nat × Nat × Nat × Nat, t = scn ch L → ∃ z, mX4_look_K97 pt (jI (t.2.1 : Nat), jI (t.1 : Nat), jI (t.2.2.1 : Nat), jI (t.2.2.2.1 : Nat), jI (t.2.2.2.2 : Nat)) = some z ∧ LK3 ch L z := by
    intro t ht
    rw [← ht] at hsb
    unfold LK3 fin
    rw [← ht]
    by_cases h0 : t.1 ≠ 0
    · rw [if_pos h0]
      simp only [mX4_look_K97, jn_e]
      rw [if_neg (by rw [ne0 (by omega)]; exact h0)]
      exact ⟨_, rfl, rfl, rfl, rfl, rfl⟩
    · rw [if_neg h0]
      have h00 : t.1 = 0 := by omega
      have hok := scn_ok (ch := ch) L (by rw [← ht]; exact h00)
      rw [← ht] at hok
      obtain ⟨a1, a2, a3, a4, a5, a6⟩ := hok
      simp only [mX4_look_K97, jn_e, mX4_lookAtEnd, mX4_isRowFull, mX4_blame, h.1, bnd_s]
      rw [h00, if_pos (show jI ((0 : Nat) : Int) = 0 by decide)]
      by_cases q1 : 0 < t.2.2.2.2
      · rw [if_neg (show ¬ (jI (t.2.2.2.2 : Nat) ≤ 0) by rw [nle0 (by omega)]; omega)]
        by_cases q2 : t.2.2.2.2 = t.2.2.1
        · rw [neq_t q2, gz1, bnd_s, if_neg (show ¬ ((1 : Int32) = 0) by decide), if_neg (show ¬ ¬ (0 < t.2.2.2.2 ∧ t.2.2.2.2 = t.2.2.1) by simp only [Decidable.not_not]; exact ⟨q1, q2⟩)]
          rw [show (1 : Int32) = jI ((1 : Nat) : Int) from jl_1]
          by_cases q3 : t.2.2.1 = 1
          · rw [neq_t q3, if_pos (Or.inl q3)]
            exact ⟨_, rfl, rfl, rfl, rfl, rfl⟩
          · rw [neq_f q3 (by omega) (by omega)]
            by_cases q4 : t.2.2.2.1 = 1
            · rw [neq_t q4, if_pos (Or.inr q4)]
              exact ⟨_, rfl, rfl, rfl, rfl, rfl⟩
            · rw [neq_f q4 (by omega) (by omega), if_neg (fun z => by omega)]
              refine ⟨_, rfl, ?_, rfl, rfl, rfl⟩
              show jI (t.2.1 : Nat) = jI ((0 : Nat) : Int)
              rw [a1]
        · rw [neq_f q2 (by omega) (by omega), gz0, bnd_s, if_pos (show (0 : Int32) = 0 from rfl), if_pos (fun z => q2 z.2)]
          exact ⟨_, rfl, rfl, rfl, rfl, rfl⟩
      · rw [if_pos (show jI (t.2.2.2.2 : Nat) ≤ 0 by rw [nle0 (by omega)]; omega), gz0, bnd_s, if_pos (show (0 : Int32) = 0 from rfl), if_pos (fun z => q1 z.1)]
        exact ⟨_, rfl, rfl, rfl, rfl, rfl⟩
  have key := lpr_r (Q := fun z => LK3 ch L z) (L := mX4_look_L27 pt (mX4_look_K97 pt)) (F := F)
    (fun i y => i ≤ L ∧ y = (jI (i : Nat), jI ((scn ch i).2.1 : Nat), jI ((scn ch i).1 : Nat), jI ((scn ch i).2.2.1 : Nat), jI ((scn ch i).2.2.2.1 : Nat), jI ((scn ch i).2.2.2.2 : Nat))) 60 (x := ((0 : Int32), (0 : Int32), (0 : Int32), (0 : Int32), (1 : Int32), (0 : Int32))) (by
    intro i y hi ⟨hiL, hy⟩
    subst hy
    by_cases e : i = L
    · left
      subst e
      obtain ⟨z, z1, z2⟩ := hend _ rfl
      refine ⟨z, z2, fun self => ?_⟩
      simp only [mX4_look_L27, h.1]
      rw [nle_t (Nat.le_refl _) (by omega)]
      exact z1
    · have hlt : i < L := by omega
      by_cases h0 : (scn ch i).1 = 0
      · right
        exact ⟨by omega, _, ⟨by omega, rfl⟩, fun self => look_st h hlt rfl h0 _ self⟩
      · left
        have hst := scn_st h0 (L - i)
        rw [show i + (L - i) = L by omega] at hst
        obtain ⟨z, z1, z2⟩ := hend _ hst.symm
        have hb := scn_b (ch := ch) i
        refine ⟨z, z2, fun self => ?_⟩
        simp only [mX4_look_L27, h.1]
        rw [nle_f hlt (by omega), if_neg (by rw [ne0 (by omega)]; exact h0)]
        exact z1) ⟨by omega, rfl⟩ hF
  obtain ⟨z, z1, z2⟩ := key
  exact ⟨z, z2, z1⟩
end TX
end
section
/-! READING of a picture on both sides -/
section RD
variable {pt : PT} {text s : nF} {ch : Nat → Nat} {L F k : Nat} {a : Int} {v : MZ}
def PC8 (ch : Nat → Nat) (L : Nat) (z : Int32 × Int32 × Int32 × Int32 × Int32) : Prop := z.1 = bI (decide ((fin ch L).1 = 0)) ∧ ((fin ch L).1 ≠ 0 → z.2.1 = jI ((fin ch L).2 : Nat) ∧ z.2.2.1 = jI ((fin ch L).1 : Nat)) ∧ ((fin ch L).1 = 0 → z.2.2.2.1 = jI ((scn ch L).2.2.1 : Nat) ∧ z.2.2.2.2 = jI ((scn ch L).2.2.2.1 : Nat))
theorem fin_b : (fin ch L).1 ≤ 4 ∧ (fin ch L).2 ≤ L := by
  have hb := scn_b (ch := ch) L
  unfold fin
  split
  · exact ⟨by show (scn ch L).1 ≤ 4; omega, hb.2.1⟩
  · split
    · exact ⟨by show 1 ≤ 4; omega, Nat.le_refl _⟩
    · split
      · exact ⟨Nat.le_refl _, Nat.le_refl _⟩
      · exact ⟨by show 0 ≤ 4; omega, Nat.zero_le _⟩
theorem fin_bad {t : Nat × Nat × Nat × Nat × Nat} (hkL : k < L) (ht : scn ch (k + 1) = t) (h : t.1 ≠ 0) : fin ch L = (t.1, t.2.1) := by
  have := scn_st (ch := ch) (k := k + 1) (by rw [ht]; exact h) (L - (k + 1))
  rw [show k + 1 + (L - (k + 1)) = L by omega, ht] at this
  unfold fin
  rw [this, if_pos h]
theorem isPicture8 {pl re wi hi : Int32} (hF : 60 < F) (h : TX pt text L ch) : ∃ z, mX8_isPicture F text (jI (L : Nat)) pl re wi hi = some z ∧ PC8 ch L z := by
  have hL := h.2.1
  unfold mX8_isPicture
  simp only [jn_e]
  refine lpr_to (E := fun e => ∃ z, e = some z ∧ PC8 ch L z) (L := mX8_isPicture_L14 text (jI (L : Nat)) (mX8_isPicture_K172 (jI (L : Nat)) pl re) (mX8_isPicture_K159 pl re) (mX8_isPicture_K137 pl re) (mX8_isPicture_K77 pl re) (mX8_isPicture_K54 pl re))
    (fun i y => i ≤ L ∧ (scn ch i).1 = 0 ∧ y = (jI ((scn ch i).2.2.2.2 : Nat), jI (i : Nat), jI ((scn ch i).2.2.1 : Nat), jI ((scn ch i).2.2.2.1 : Nat))) 60 ?_ F 0 _ ⟨by omega, rfl, rfl⟩ (by omega) (by omega)
  intro i y hi ⟨hiL, h0, hy⟩
  subst hy
  have hok := scn_ok i h0
  by_cases e : i = L
  · left
    subst e
    have hfin : fin ch i = if ¬ (0 < (scn ch i).2.2.2.2 ∧ (scn ch i).2.2.2.2 = (scn ch i).2.2.1) then (1, i) else if (scn ch i).2.2.1 = 1 ∨ (scn ch i).2.2.2.1 = 1 then (4, i) else (0, 0) := by
      unfold fin
      rw [if_neg (by rw [h0]; simp)]
    unfold PC8
    rw [hfin]
    generalize scn ch i = t at *
    obtain ⟨r, p, w, n, j⟩ := t
    obtain ⟨a1, a2, a3, a4, a5, a6⟩ := hok
    simp only at a1 a2 a3 a4 a5 h0 ⊢
    refine ⟨mX8_isPicture_K172 (jI (i : Nat)) pl re (jI (j : Nat), jI (w : Nat), jI (n : Nat)), ?_, fun self => ?_⟩
    · simp only [mX8_isPicture_K172, mX8_breaks, jn_e, gz0, bnd_s]
      by_cases q1 : j = 0
      · rw [if_pos (show jI (j : Nat) = 0 by rw [ne0 (by omega)]; exact q1), if_pos (show ¬ (0 < j ∧ j = w) by omega)]
        exact ⟨_, rfl, rfl, fun _ => ⟨rfl, rfl⟩, fun z => absurd z (show ¬ ((1 : Nat) = 0) by decide)⟩
      · rw [if_neg (show ¬ jI (j : Nat) = 0 by rw [ne0 (by omega)]; exact q1)]
        by_cases q2 : w ≤ j
        · rw [nle_t q2 (by omega), if_neg (show ¬ ¬ (0 < j ∧ j = w) by omega)]
          rw [show (1 : Int32) = jI ((1 : Nat) : Int) from jl_1]
          by_cases q3 : w ≤ 1
          · rw [nle_t q3 (by omega), if_pos (show w = 1 ∨ n = 1 by omega), if_pos trivial]
            exact ⟨_, rfl, rfl, fun _ => ⟨rfl, rfl⟩, fun z => absurd z (show ¬ ((4 : Nat) = 0) by decide)⟩
          · rw [nle_f (by omega) (by omega)]
            by_cases q4 : 1 < n
            · rw [nlt_t q4 (by omega), if_neg (show ¬ (w = 1 ∨ n = 1) by omega), ← jl_1, gz1]
              exact ⟨_, rfl, rfl, fun z => absurd rfl z, fun _ => ⟨rfl, rfl⟩⟩
            · rw [nlt_f (by omega) (by omega), if_pos (show w = 1 ∨ n = 1 by omega), if_pos trivial]
              exact ⟨_, rfl, rfl, fun _ => ⟨rfl, rfl⟩, fun z => absurd z (show ¬ ((4 : Nat) = 0) by decide)⟩
        · rw [nle_f (by omega) (by omega), if_pos (show ¬ (0 < j ∧ j = w) by omega)]
          exact ⟨_, rfl, rfl, fun _ => ⟨rfl, rfl⟩, fun z => absurd z (show ¬ ((1 : Nat) = 0) by decide)⟩
    · simp only [mX8_isPicture_L14]
      rw [nle_t (Nat.le_refl _) (by omega)]
  · have hlt : i < L := by omega
    obtain ⟨c1, c2, c3, c4⟩ := h.2.2 i hlt
    have hS : scn ch (i + 1) = if (scn ch i).1 ≠ 0 then scn ch i else
      if 48 ≤ ch i ∧ ch i ≤ 57 then
        (if (scn ch i).2.2.2.1 = 1 ∧ (scn ch i).2.2.2.2 = 6 then (2, i, (scn ch i).2.2)
         else if 1 < (scn ch i).2.2.2.1 ∧ (scn ch i).2.2.2.2 = (scn ch i).2.2.1 then (1, i, (scn ch i).2.2)
         else (0, 0, (if (scn ch i).2.2.2.1 = 1 then (scn ch i).2.2.2.2 + 1 else (scn ch i).2.2.1), (scn ch i).2.2.2.1, (scn ch i).2.2.2.2 + 1))
      else if ch i = 47 ∧ 0 < (scn ch i).2.2.2.2 ∧ (scn ch i).2.2.2.2 = (scn ch i).2.2.1 then
        (if (scn ch i).2.2.2.1 = 6 then (3, i, (scn ch i).2.2) else (0, 0, (scn ch i).2.2.1, (scn ch i).2.2.2.1 + 1, 0))
      else (1, i, (scn ch i).2.2) := rfl
    rw [if_neg (by rw [h0]; simp)] at hS
    have hbad : ∀ r : Nat, r ≠ 0 → scn ch (i + 1) = (r, i, (scn ch i).2.2) → ∀ w n : Int32, PC8 ch L (0, jI (i : Nat), jI (r : Nat), w, n) := by
      intro r hr hs w n
      have := fin_bad (ch := ch) hlt hs hr
      unfold PC8
      rw [this, decide_eq_false hr]
      exact ⟨rfl, fun _ => ⟨rfl, rfl⟩, fun z => absurd z hr⟩
    generalize hT : scn ch i = t at *
    obtain ⟨r, p, w, n, j⟩ := t
    obtain ⟨a1, a2, a3, a4, a5, a6⟩ := hok
    simp only at a1 a2 a3 a4 a5 h0 hS hbad ⊢
    have hin : mX8_in (jI (ch i : Nat)) (48 : Int32) (57 : Int32) = some (bI (decide (48 ≤ ch i ∧ ch i ≤ 57))) := by
      rw [j_48, j_57, in8 (by omega) (by omega) (by omega)]
      congr 2
      exact decide_eq_decide.mpr (by omega)
    have hst : ∀ self, mX8_isPicture_L14 text (jI (L : Nat)) (mX8_isPicture_K172 (jI (L : Nat)) pl re) (mX8_isPicture_K159 pl re) (mX8_isPicture_K137 pl re) (mX8_isPicture_K77 pl re) (mX8_isPicture_K54 pl re) self (jI (j : Nat), jI (i : Nat), jI (w : Nat), jI (n : Nat)) =
        if 48 ≤ ch i ∧ ch i ≤ 57 then
          (if n = 1 ∧ j = 6 then some ((0 : Int32), jI (i : Nat), jI ((2 : Nat) : Int), jI (w : Nat), jI (n : Nat))
           else if 1 < n ∧ j = w then some ((0 : Int32), jI (i : Nat), jI ((1 : Nat) : Int), jI (w : Nat), jI (n : Nat))
           else self (jI ((j + 1 : Nat) : Int), jI ((i + 1 : Nat) : Int), jI ((if n = 1 then j + 1 else w : Nat) : Int), jI (n : Nat)))
        else if ch i = 47 ∧ 0 < j ∧ j = w then
          (if n = 6 then some ((0 : Int32), jI (i : Nat), jI ((3 : Nat) : Int), jI (w : Nat), jI (n : Nat)) else self (jI ((0 : Nat) : Int), jI ((i + 1 : Nat) : Int), jI (w : Nat), jI ((n + 1 : Nat) : Int)))
        else some ((0 : Int32), jI (i : Nat), jI ((1 : Nat) : Int), jI (w : Nat), jI (n : Nat)) := by
      intro self
      simp only [mX8_isPicture_L14, jcl i (by omega), c2]
      rw [nle_f hlt (by omega), gdi (by omega) (by omega), hin, bnd_s]
      simp only [jn_e, ifb, mX8_isPicture_K159, mX8_isPicture_K137, mX8_isPicture_K77, mX8_isPicture_K54, mX8_breaks, gz0, bnd_s, jS, jl_6]
      by_cases hd : 48 ≤ ch i ∧ ch i ≤ 57
      · rw [if_pos (show decide (48 ≤ ch i ∧ ch i ≤ 57) = true from decide_eq_true hd), if_pos hd]
        rw [show (1 : Int32) = jI ((1 : Nat) : Int) from jl_1, show (2 : Int32) = jI ((2 : Nat) : Int) from jl_2]
        by_cases q1 : n = 1
        · rw [neq_t q1]
          by_cases q2 : j = 6
          · rw [neq_t q2, if_pos (show n = 1 ∧ j = 6 from ⟨q1, q2⟩)]
          · rw [neq_f q2 (by omega) (by omega), nle_t (show n ≤ 1 by omega) (by omega), neq_t q1, if_neg (show ¬ (n = 1 ∧ j = 6) from fun z => q2 z.2), if_neg (show ¬ (1 < n ∧ j = w) by omega), if_pos q1]
        · rw [neq_f q1 (by omega) (by omega), nle_f (show 1 < n by omega) (by omega), if_neg (show ¬ (n = 1 ∧ j = 6) from fun z => q1 z.1)]
          by_cases q2 : j = w
          · rw [neq_t q2, if_pos (show 1 < n ∧ j = w from ⟨by omega, q2⟩)]
          · rw [neq_f q2 (by omega) (by omega), neq_f q1 (by omega) (by omega), if_neg (show ¬ (1 < n ∧ j = w) from fun z => q2 z.2), if_neg q1]
      · rw [if_neg (show ¬ (decide (48 ≤ ch i ∧ ch i ≤ 57) = true) by rw [decide_eq_false hd]; exact Bool.noConfusion), if_neg hd]
        rw [show (47 : Int32) = jI ((47 : Nat) : Int) from jl_47]
        by_cases q0 : ch i = 47
        · rw [neq_t q0]
          by_cases q1 : 0 < j
          · rw [if_neg (show ¬ (jI (j : Nat) ≤ 0) by rw [nle0 (by omega)]; omega)]
            by_cases q2 : j = w
            · rw [neq_t q2, if_pos (show ch i = 47 ∧ 0 < j ∧ j = w from ⟨q0, q1, q2⟩)]
              by_cases q3 : n = 6
              · rw [neq_t q3, if_pos q3]; rfl
              · rw [neq_f q3 (by omega) (by omega), if_neg q3, jl_0]
            · rw [neq_f q2 (by omega) (by omega), if_neg (show ¬ (ch i = 47 ∧ 0 < j ∧ j = w) from fun z => q2 z.2.2)]; rfl
          · rw [if_pos (show jI (j : Nat) ≤ 0 by rw [nle0 (by omega)]; omega), if_neg (show ¬ (ch i = 47 ∧ 0 < j ∧ j = w) from fun z => q1 z.2.1)]; rfl
        · rw [neq_f q0 (by omega) (by omega), if_neg (show ¬ (ch i = 47 ∧ 0 < j ∧ j = w) from fun z => q0 z.1)]; rfl
    by_cases hd : 48 ≤ ch i ∧ ch i ≤ 57
    · rw [if_pos hd] at hS
      by_cases q1 : n = 1 ∧ j = 6
      · rw [if_pos q1] at hS
        left
        exact ⟨_, ⟨_, rfl, hbad 2 (by decide) hS _ _⟩, fun self => by rw [hst, if_pos hd, if_pos q1]⟩
      · rw [if_neg q1] at hS
        by_cases q2 : 1 < n ∧ j = w
        · rw [if_pos q2] at hS
          left
          exact ⟨_, ⟨_, rfl, hbad 1 (by decide) hS _ _⟩, fun self => by rw [hst, if_pos hd, if_neg q1, if_pos q2]⟩
        · rw [if_neg q2] at hS
          right
          refine ⟨by omega, _, ⟨by omega, by rw [hS], ?_⟩, fun self => by rw [hst, if_pos hd, if_neg q1, if_neg q2]⟩
          rw [hS]
    · rw [if_neg hd] at hS
      by_cases q1 : ch i = 47 ∧ 0 < j ∧ j = w
      · rw [if_pos q1] at hS
        by_cases q2 : n = 6
        · rw [if_pos q2] at hS
          left
          exact ⟨_, ⟨_, rfl, hbad 3 (by decide) hS _ _⟩, fun self => by rw [hst, if_neg hd, if_pos q1, if_pos q2]⟩
        · rw [if_neg q2] at hS
          right
          refine ⟨by omega, _, ⟨by omega, by rw [hS], ?_⟩, fun self => by rw [hst, if_neg hd, if_pos q1, if_neg q2]⟩
          rw [hS]
      · rw [if_neg q1] at hS
        left
        exact ⟨_, ⟨_, rfl, hbad 1 (by decide) hS _ _⟩, fun self => by rw [hst, if_neg hd, if_neg q1]⟩
/-- what fault answers -/
def faultA (ch : Nat → Nat) (L : Nat) (a : Int) : Int := if 0 ≤ a ∧ a ≤ 1 then (if (fin ch L).1 = 0 then -4 else if a = 0 then ((fin ch L).2 : Int) else ((fin ch L).1 : Int)) else -1
theorem fault3 (hF : 60 < F) (h : TX pt text L ch) (ha : -2147483648 ≤ a ∧ a < 2147483648) : ∃ z, mX7_fault F pt (jI a) = some (jI (faultA ch L a), z) := by
  have hL := h.2.1
  have hb := fin_b (ch := ch) (L := L)
  obtain ⟨z, z1, z2, z3, z4, z5⟩ := look3 hF h
  unfold mX7_fault faultA
  simp only [jn_e]
  by_cases h0 : a < 0
  · rw [j_0, jlt_t ha (by omega) h0, if_neg (by omega)]; exact ⟨_, rfl⟩
  · rw [j_0, jlt_f ha (by omega) (by omega), j_1]
    by_cases h2 : a ≤ 1
    · rw [jle_t ha (by omega) h2, if_pos (by omega), z1, bnd_s, z3, ← j_0]
      by_cases q : (fin ch L).1 = 0
      · rw [if_pos (show jI ((fin ch L).1 : Nat) = 0 by rw [ne0 (by omega)]; exact q), if_pos q]; exact ⟨_, rfl⟩
      · rw [if_neg (show ¬ jI ((fin ch L).1 : Nat) = 0 by rw [ne0 (by omega)]; exact q), if_neg q]
        by_cases q1 : a = 0
        · rw [j_0, jeq_t q1, if_pos q1, z2]; exact ⟨_, rfl⟩
        · rw [j_0, jeq_f ha (by omega) q1, if_neg q1]; exact ⟨_, rfl⟩
    · rw [jle_f ha (by omega) (by omega), if_neg (by omega)]; exact ⟨_, rfl⟩
theorem fault8 {pl re wi hi : Int32} (hF : 60 < F) (h : TX pt text L ch) (ha : -2147483648 ≤ a ∧ a < 2147483648) : ∃ z, mX8_fault F text (jI (L : Nat)) pl re wi hi (jI a) = some (jI (faultA ch L a), z) := by
  have hL := h.2.1
  have hb := fin_b (ch := ch) (L := L)
  obtain ⟨z, z1, z2, z3, z4⟩ := isPicture8 (pl := pl) (re := re) (wi := wi) (hi := hi) hF h
  unfold mX8_fault faultA
  rw [j_0, j_1, in8 ha (by omega) (by omega), bnd_s, ← j_0, ifb]
  by_cases h0 : 0 ≤ a ∧ a ≤ 1
  · rw [if_pos (decide_eq_true h0), if_pos h0, z1, bnd_s, z2, ifb]
    by_cases q : (fin ch L).1 = 0
    · rw [if_pos (decide_eq_true q), if_pos q]; exact ⟨_, rfl⟩
    · rw [if_neg (by rw [decide_eq_false q]; exact Bool.noConfusion), if_neg q]
      simp only [jn_e]
      obtain ⟨y1, y2⟩ := z3 q
      by_cases q1 : a = 0
      · rw [j_0, jeq_t q1, if_pos q1, y1]; exact ⟨_, rfl⟩
      · rw [j_0, jeq_f ha (by omega) q1, if_neg q1, y2]; exact ⟨_, rfl⟩
  · rw [if_neg (by rw [decide_eq_false h0]; exact Bool.noConfusion), if_neg h0]; exact ⟨_, rfl⟩
/-- the maze of a picture -/
def Mrd (ch : Nat → Nat) (L : Nat) : Mz := ((((scn ch L).2.2.1, (scn ch L).2.2.2.1)), fun c => ch (c + c / (scn ch L).2.2.1) - 48, fun _ => false, ((0, 3), ((scn ch L).2.2.1 * (scn ch L).2.2.2.1 - 1, 1)))
theorem fin_ok (h : (fin ch L).1 = 0) : (2 ≤ (scn ch L).2.2.1 ∧ (scn ch L).2.2.1 ≤ 6) ∧ (2 ≤ (scn ch L).2.2.2.1 ∧ (scn ch L).2.2.2.1 ≤ 6) ∧ L + 1 = (scn ch L).2.2.2.1 * ((scn ch L).2.2.1 + 1) ∧ ∀ i, i < L → (i % ((scn ch L).2.2.1 + 1) = (scn ch L).2.2.1 → ch i = 47) ∧ (i % ((scn ch L).2.2.1 + 1) ≠ (scn ch L).2.2.1 → dgt (ch i)) := by
  unfold fin at h
  by_cases h0 : (scn ch L).1 ≠ 0
  · rw [if_pos h0] at h; exact absurd h h0
  · rw [if_neg h0] at h
    by_cases h1 : ¬ (0 < (scn ch L).2.2.2.2 ∧ (scn ch L).2.2.2.2 = (scn ch L).2.2.1)
    · rw [if_pos h1] at h; exact absurd h (show ¬ ((1 : Nat) = 0) by decide)
    · rw [if_neg h1] at h
      by_cases h2 : (scn ch L).2.2.1 = 1 ∨ (scn ch L).2.2.2.1 = 1
      · rw [if_pos h2] at h; exact absurd h (show ¬ ((4 : Nat) = 0) by decide)
      · obtain ⟨a1, a2, a3, a4, a5, a6⟩ := scn_ok L (show (scn ch L).1 = 0 by omega)
        generalize scn ch L = t at *
        obtain ⟨r, p, w, n, j⟩ := t
        simp only at a1 a2 a3 a4 a5 a6 h1 h2 ⊢
        rcases a6 with ⟨b1, b2, b3, b4⟩ | ⟨b1, b2, b3, b4⟩
        · omega
        · refine ⟨⟨by omega, a2⟩, ⟨by omega, a4⟩, ?_, b4⟩
          have hn : n = 2 ∨ n = 3 ∨ n = 4 ∨ n = 5 ∨ n = 6 := by omega
          rcases hn with rfl | rfl | rfl | rfl | rfl <;> omega
theorem Mc_wf {C R : Nat} {t : Nat → Nat} (hC : 2 ≤ C ∧ C ≤ 6) (hR : 2 ≤ R ∧ R ≤ 6) (ht : ∀ c, c < C * R → t c ≤ 9) : WF ((C, R), t, fun _ => false, ((0, 3), (C * R - 1, 1))) := by
  have hd : dm ((C, R), t, (fun _ => false : Op), ((0, 3), (C * R - 1, 1))) := ⟨hC.1, hC.2, hR.1, hR.2⟩
  have hN := dm_le hd
  have e0 : 4 ≤ C * R := hN.2.2.2.2.1
  refine ⟨hd, ht, fun k hk => (by cases hk), fun k hk => (by cases hk), ⟨?_, ?_, ?_⟩, ⟨?_, ?_, ?_⟩, ?_⟩
  · show 0 < C * R; omega
  · show 3 < 4; omega
  · show nb C (C * R) 0 3 = none
    unfold nb
    rw [if_neg (by omega), if_neg (by omega), if_neg (by omega), if_neg (by simp)]
  · show C * R - 1 < C * R; omega
  · show 1 < 4; omega
  · show nb C (C * R) (C * R - 1) 1 = none
    unfold nb
    rw [if_neg (by omega), if_pos rfl, if_neg]
    have e : (C * R - 1) % C = C - 1 := by
      have hR2 : R = 2 ∨ R = 3 ∨ R = 4 ∨ R = 5 ∨ R = 6 := by omega
      have hC2 : C = 2 ∨ C = 3 ∨ C = 4 ∨ C = 5 ∨ C = 6 := by omega
      rcases hC2 with rfl | rfl | rfl | rfl | rfl <;> rcases hR2 with rfl | rfl | rfl | rfl | rfl <;> rfl
    rw [e]; omega
  · show ¬ (0 = C * R - 1 ∧ 3 = 1)
    omega
/-- where the digit of a cell stands -/
theorem cell_at {w n : Nat} (hw : 2 ≤ w ∧ w ≤ 6) (hn : 2 ≤ n ∧ n ≤ 6) (hL : L + 1 = n * (w + 1)) {c : Nat} (hc : c < w * n) : c + c / w < L ∧ (c + c / w) % (w + 1) ≠ w ∧ (c + c / w) - (c + c / w) / (w + 1) = c := by
  have hw2 : w = 2 ∨ w = 3 ∨ w = 4 ∨ w = 5 ∨ w = 6 := by omega
  have hn2 : n = 2 ∨ n = 3 ∨ n = 4 ∨ n = 5 ∨ n = 6 := by omega
  rcases hw2 with rfl | rfl | rfl | rfl | rfl <;> rcases hn2 with rfl | rfl | rfl | rfl | rfl <;> omega
theorem Mrd_wf (h : (fin ch L).1 = 0) : WF (Mrd ch L) := by
  obtain ⟨hw, hn, hL, hc⟩ := fin_ok h
  refine Mc_wf hw hn (fun c hcN => ?_)
  obtain ⟨q1, q2, -⟩ := cell_at hw hn hL hcN
  have := (hc _ q1).2 q2
  unfold dgt at this
  omega
theorem paint3 {ptz : PT} (hF : 60 < F) (h : TX pt text L ch) (hok : (fin ch L).1 = 0) (hp1 : ptz.1 = pt.1) (hp2 : ptz.2.2.2.1 = pt.2.2.2.1) (hp3 : ptz.2.2.2.2.1 = jI ((scn ch L).2.2.1 : Nat)) (hp4 : ptz.2.2.2.2.2.1 = jI ((scn ch L).2.2.2.1 : Nat)) : ∃ r, mX4_paint F ptz v = some r ∧ R3 r (Mrd ch L) := by
  obtain ⟨hw, hn, hLL, hc⟩ := fin_ok hok
  obtain ⟨r, r1, r2, r3⟩ := clear3 (v := v) (F := F) (by omega) hw hn
  have hL := h.2.1
  unfold mX4_paint
  rw [hp3, hp4, r1, bnd_s]
  have hch : ∀ i, i < L → ptz.2.2.2.1 i = jI (ch i : Nat) := fun i hi => by rw [hp2]; exact (h.2.2 i hi).1
  have hb : ∀ i, i < L → ch i ≤ 126 := fun i hi => (h.2.2 i hi).2.2.2
  have hN36 : (scn ch L).2.2.1 * (scn ch L).2.2.2.1 ≤ 36 := Nat.mul_le_mul hw.2 hn.2
  generalize hwe : (scn ch L).2.2.1 = w at *
  generalize hne : (scn ch L).2.2.2.1 = n at *
  have hw2 : w = 2 ∨ w = 3 ∨ w = 4 ∨ w = 5 ∨ w = 6 := by omega
  have key := lpr_r (Q := fun z : MZ => ∃ t, z = (r.1, r.2.1, t, r.2.2.2.1, r.2.2.2.2.1, r.2.2.2.2.2) ∧ ∀ c, c < w * n → t c = jI ((ch (c + c / w) - 48 : Nat) : Int)) (L := mX4_paint_L16 ptz r) (F := F)
    (fun i y => y.1 = jI ((i - i / (w + 1) : Nat) : Int) ∧ y.2.1 = jI (i : Nat) ∧ ∀ c, c < w * n → c + c / w < i → y.2.2 c = jI ((ch (c + c / w) - 48 : Nat) : Int)) L (x := ((0 : Int32), (0 : Int32), r.2.2.1)) (by
    rintro i ⟨y1, y2, y3⟩ hi ⟨e1, e2, e3⟩
    have e1 : y1 = jI ((i - i / (w + 1) : Nat) : Int) := e1
    have e2 : y2 = jI (i : Nat) := e2
    subst e1; subst e2
    by_cases e : i = L
    · left
      subst e
      refine ⟨_, ⟨y3, rfl, fun c hcN => e3 c hcN (cell_at hw hn hLL hcN).1⟩, fun self => ?_⟩
      simp only [mX4_paint_L16, hp1, h.1]
      rw [nle_t (Nat.le_refl _) (by omega)]
    · right
      have hlt : i < L := by omega
      refine ⟨hlt, ?_⟩
      have hbi := hb i hlt
      by_cases q : i % (w + 1) = w
      · have h47 := (hc i hlt).1 q
        refine ⟨(jI ((i + 1 - (i + 1) / (w + 1) : Nat) : Int), jI ((i + 1 : Nat) : Int), y3), ⟨rfl, rfl, fun c hcN hci => e3 c hcN ?_⟩, fun self => ?_⟩
        · have := (cell_at hw hn hLL hcN).2.1
          have : c + c / w ≠ i := by
            intro z
            rw [z] at this; exact this q
          omega
        · simp only [mX4_paint_L16, hp1, h.1]
          rw [nle_f hlt (by omega), at_i (by omega) (by omega), bnd_s, hch i hlt]
          simp only [jn_e, jl_47, jS]
          rw [neq_t h47]
          have : i - i / (w + 1) = i + 1 - (i + 1) / (w + 1) := by
            rcases hw2 with rfl | rfl | rfl | rfl | rfl <;> omega
          rw [this]
      · have hdg := (hc i hlt).2 q
        unfold dgt at hdg
        have hcell : i - i / (w + 1) < w * n := by
          have hn2 : n = 2 ∨ n = 3 ∨ n = 4 ∨ n = 5 ∨ n = 6 := by omega
          rcases hw2 with rfl | rfl | rfl | rfl | rfl <;> rcases hn2 with rfl | rfl | rfl | rfl | rfl <;> omega
        have hback : (i - i / (w + 1)) + (i - i / (w + 1)) / w = i := by
          rcases hw2 with rfl | rfl | rfl | rfl | rfl <;> omega
        refine ⟨(jI ((i + 1 - (i + 1) / (w + 1) : Nat) : Int), jI ((i + 1 : Nat) : Int), upd y3 (i - i / (w + 1)) (jI ((ch i - 48 : Nat) : Int))), ⟨rfl, rfl, fun c hcN hci => ?_⟩, fun self => ?_⟩
        · show upd y3 (i - i / (w + 1)) _ c = _
          by_cases z : c = i - i / (w + 1)
          · subst z; rw [upd_s, hback]
          · rw [upd_n z]
            refine e3 c hcN ?_
            have : c + c / w ≠ i := by
              intro y
              apply z
              have := (cell_at hw hn hLL hcN).2.2
              rw [y] at this
              exact this.symm
            omega
        · simp only [mX4_paint_L16, hp1, h.1]
          rw [nle_f hlt (by omega), at_i (by omega) (by omega), bnd_s, hch i hlt]
          simp only [jn_e, jl_47, jl_48, jS, jnS hdg.1]
          rw [neq_f (by omega) (by omega) (by omega), put_i (by omega) (by omega), bnd_s]
          have : i - i / (w + 1) + 1 = i + 1 - (i + 1) / (w + 1) := by
            rcases hw2 with rfl | rfl | rfl | rfl | rfl <;> omega
          rw [this]) ⟨(show (0 : Int32) = jI ((0 - 0 / (w + 1) : Nat) : Int) by rw [Nat.zero_sub]; exact jl_0), jl_0, fun c _ hc => absurd hc (Nat.not_lt_zero _)⟩ (by omega)
  obtain ⟨z, ⟨t, hz, ht⟩, hz2⟩ := key
  refine ⟨z, hz2, ?_⟩
  rw [hz]
  obtain ⟨g1, g2, g3, g4, g5, g6, g7, g8⟩ := r2
  have eM : Mrd ch L = ((w, n), (fun c => ch (c + c / w) - 48), (fun _ => false), ((0, 3), (w * n - 1, 1))) := by unfold Mrd; rw [hwe, hne]
  rw [eM]
  exact R3_mk g1 g2 (fun c hc => ht c hc) g4 g5 g6 g7 g8
/-- the reference's tones -/
theorem readTones8 {s0 : nF} {wi : Int32} {j5 : nF → Option (Int32 × nF × nF × nF × Int32 × Int32 × Int32 × Int32 × Int32)} {r2 : Int32 × Int32 × Int32 × Int32 × Int32} (hF : 60 < F) (h : TX pt text L ch) (hok : (fin ch L).1 = 0) (hr : r2.2.2.2.1 = jI ((scn ch L).2.2.1 : Nat)) (h0 : R8 s0 (Mc (scn ch L).2.2.1 (scn ch L).2.2.2.1)) :
    ∃ s', lpr (mX8_read_L28 text r2 j5) F ((0 : Int32), s0) = j5 s' ∧ R8 s' (Mrd ch L) := by
  obtain ⟨hw, hn, hLL, hc⟩ := fin_ok hok
  have hL := h.2.1
  have hch : ∀ i, i < L → text i = jI (ch i : Nat) := fun i hi => (h.2.2 i hi).2.1
  have hb : ∀ i, i < L → ch i ≤ 126 := fun i hi => (h.2.2 i hi).2.2.2
  have hN36 : (scn ch L).2.2.1 * (scn ch L).2.2.2.1 ≤ 36 := Nat.mul_le_mul hw.2 hn.2
  generalize hwe : (scn ch L).2.2.1 = w at *
  generalize hne : (scn ch L).2.2.2.1 = n at *
  have eM : Mrd ch L = ((w, n), (fun c => ch (c + c / w) - 48), (fun _ => false), ((0, 3), (w * n - 1, 1))) := by unfold Mrd; rw [hwe, hne]
  have key := lpr_j (Q := fun s' : nF => R8 s' (Mrd ch L)) (L := fun j5 => mX8_read_L28 text r2 j5) (F := F)
    (fun i y => y.1 = jI (i : Nat) ∧ (∀ k, k < 6 → y.2 k = s0 k) ∧ (∀ k, 42 ≤ k → k < 114 → y.2 k = s0 k) ∧ ∀ c, c < i → y.2 (6 + c) = jI ((ch (c + c / w) - 48 : Nat) : Int)) (w * n) (x := ((0 : Int32), s0)) (by
    rintro i ⟨y1, y2⟩ hi ⟨e1, e2, e3, e4⟩
    have e1 : y1 = jI (i : Nat) := e1
    subst e1
    have e2 : ∀ k, k < 6 → y2 k = s0 k := e2
    have e3 : ∀ k, 42 ≤ k → k < 114 → y2 k = s0 k := e3
    have e4 : ∀ c, c < i → y2 (6 + c) = jI ((ch (c + c / w) - 48 : Nat) : Int) := e4
    have hce : mX8_cells y2 = some (jI ((w * n : Nat) : Int)) := by
      unfold mX8_cells
      rw [gl0, gl1, cl0, cl1, e2 0 (by omega), e2 1 (by omega), h0.1, h0.2.1, jnM]
      rfl
    by_cases e : i = w * n
    · left
      subst e
      refine ⟨y2, ?_, fun j self => ?_⟩
      · rw [eM]
        obtain ⟨g1, g2, g3, g4, g5, g6, g7, g8⟩ := h0
        refine ⟨(e2 0 (by omega)).trans g1, (e2 1 (by omega)).trans g2, (e2 2 (by omega)).trans g3, (e2 3 (by omega)).trans g4, (e2 4 (by omega)).trans g5, (e2 5 (by omega)).trans g6, fun c hcN => e4 c hcN, fun k hk => (e3 (42 + k) (by omega) ?_).trans (g8 k hk)⟩
        have hk : k < 2 * (w * n) := hk
        omega
      · simp only [mX8_read_L28, hce, bnd_s]
        rw [nle_t (Nat.le_refl _) (by omega)]
    · right
      have hlt : i < w * n := by omega
      obtain ⟨q1, q2, -⟩ := cell_at hw hn hLL hlt
      have hdg := (hc _ q1).2 q2
      unfold dgt at hdg
      refine ⟨hlt, (jI ((i + 1 : Nat) : Int), upd y2 (6 + i) (jI ((ch (i + i / w) - 48 : Nat) : Int))), ⟨rfl, fun k hk => ?_, fun k hk1 hk2 => ?_, fun c hci => ?_⟩, fun j self => ?_⟩
      · show upd y2 (6 + i) _ k = _
        rw [upd_n (by omega)]; exact e2 k hk
      · show upd y2 (6 + i) _ k = _
        rw [upd_n (by omega)]; exact e3 k hk1 hk2
      · show upd y2 (6 + i) _ (6 + c) = _
        by_cases z : c = i
        · subst z; rw [upd_s]
        · rw [upd_n (by omega)]; exact e4 c (by omega)
      · simp only [mX8_read_L28, hce, bnd_s, hr]
        rw [nle_f hlt (by omega), gnz (by omega) (by omega), ndiv (by omega) (by omega) (by omega), jnA, gdi (by omega) (by omega), j6p, gdi (by omega) (by omega), jcl _ (by omega), jcl _ (by omega), hch _ q1, jl_48, jnS hdg.1, jS]) ⟨jl_0, fun k _ => rfl, fun k _ _ => rfl, fun c hc => by omega⟩ (by omega)
  obtain ⟨s', q1, q2⟩ := key
  exact ⟨s', q2 j5, q1⟩
end RD
end
section
/-! STEPS: each call on both sides, behind one invariant -/
def CR (M : Mz) (n : Nat) (H : Nat → Mz) (o1 : MZ) (o3 : HS) (s past : nF) (st : Int32) : Prop := WF M ∧ R3 o1 M ∧ R8 s M ∧ RH o3 n H ∧ RP past n H ∧ st = jI (n : Nat) ∧ ∀ i, i < n → WF (H i)
def INV (hs : Int32) (o1 o2 : MZ) (o3 : HS) (o4 : PT) (s kept : nF) (ik : Int32) (past : nF) (st : Int32) (text : nF) (len : Int32) : Prop :=
  ∃ M n H kb K L ch, CR M n H o1 o3 s past st ∧ hs = bI kb ∧ ik = bI kb ∧ (kb = true → WF K ∧ R3 o2 K ∧ R8 kept K) ∧ len = jI (L : Nat) ∧ TX o4 text L ch
def setD (M : Mz) (e : (Nat × Nat) × (Nat × Nat)) : Mz := (M.1, M.2.1, M.2.2.1, e)
theorem in8l {a : Int} (l u : Int) {L U : Int32} (hL : L = jI l) (hU : U = jI u) (hb : -2147483648 ≤ a ∧ a < 2147483648) (hl : -2147483648 ≤ l ∧ l < 2147483648) (hu : -2147483648 ≤ u ∧ u < 2147483648) : mX8_in (jI a) L U = some (bI (decide (l ≤ a ∧ a ≤ u))) := by
  rw [hL, hU]; exact in8 hb hl hu
theorem dnf {P : Prop} {inst : Decidable P} (h : ¬ P) : ¬ (@decide P inst = true) := fun z => h (of_decide_eq_true z)
section ST
variable {hs ik st len : Int32} {o1 o2 o1' : MZ} {o3 : HS} {o4 : PT} {s s' kept past text bg far qu : nF} {M M' : Mz} {n F : Nat} {H : Nat → Mz} {w5 : WY} {a b c : Int}
theorem mutate (hF : 342 < F) (hI : CR M n H o1 o3 s past st) (hM : WF M') (h3 : R3 o1' M') (h8 : R8 s' M') (ha : 0 ≤ a ∧ a < 2147483648) : ∃ h' p', mX2_push F o3 o1 = some h' ∧ mX8_acted F s' (mix 114 s bg) past st (jI a) = some (jI a, s', p', jI (pushN n : Nat)) ∧ CR M' (pushN n) (pushH n H M) o1' h' s' p' (jI (pushN n : Nat)) := by
  obtain ⟨i1, i2, i3, i4, i5, i6, i7⟩ := hI
  obtain ⟨h', q1, q2⟩ := push3 (F := F) (by omega) i4 i2 i1.1
  obtain ⟨p', r1, r2⟩ := acted8 (s := s') (a := a) hF i4.2.1 i5 (fun i hi => (i7 i hi).1) (R8_mix (b := bg) i3 i1.1) i1.1 ha
  refine ⟨h', p', q1, ?_, hM, h3, h8, q2, r2, rfl, pushH_all i4.2.1 i7 i1⟩
  rw [i6]; exact r1
theorem tone_s (hF : 400 < F) (hI : INV hs o1 o2 o3 o4 s kept ik past st text len) (ha : -2147483648 ≤ a ∧ a < 2147483648) (hb : -2147483648 ≤ b ∧ b < 2147483648) :
    ∃ o o', mX7_tone F o1 o3 (jI a) (jI b) = some o ∧ mX8_tone F s bg past st (jI a) (jI b) = some o' ∧ o.1 = o'.1 ∧ INV hs (o1.1, o1.2.1, o.2.1, o1.2.2.2.1, o1.2.2.2.2.1, o1.2.2.2.2.2) o2 o.2.2 o4 o'.2.1 kept ik o'.2.2.2.1 o'.2.2.2.2 text len := by
  have hI0 := hI
  obtain ⟨M, n, H, kb, K, L, ch, hC, k1, k2, k3, k4, k5⟩ := hI
  have i1 := hC.1
  have i2 := hC.2.1
  have i3 := hC.2.2.1
  have hN := dm_le i1.1
  unfold mX7_tone mX8_tone
  rw [hasCell3 i2 i1.1 ha, bnd_s, begins8 (by omega), bnd_s, isCell8 i3 i1.1 ha, bnd_s]
  simp only [jn_e, ifb]
  by_cases h1 : 0 ≤ a ∧ a < (mN M : Int)
  · rw [if_pos (decide_eq_true h1), if_pos (decide_eq_true h1), in8l 0 9 j_0 j_9 hb (by omega) (by omega), bnd_s, ifb]
    obtain ⟨p, rfl⟩ := Int.eq_ofNat_of_zero_le h1.1
    have hp : p < mN M := by omega
    by_cases h2 : 0 ≤ b ∧ b ≤ 9
    · obtain ⟨t, rfl⟩ := Int.eq_ofNat_of_zero_le h2.1
      have htb := i1.2.1 p hp
      have hM : WF (setT M (set1 (mT M) p t)) := by
        refine ⟨i1.1, fun c hc => ?_, i1.2.2⟩
        show set1 (mT M) p t c ≤ 9
        by_cases z : c = p
        · subst z; rw [set1_s]; omega
        · rw [set1_n z]; exact i1.2.1 c hc
      have h3 : R3 (o1.1, o1.2.1, upd o1.2.2.1 p (jI (t : Nat)), o1.2.2.2.1, o1.2.2.2.2.1, o1.2.2.2.2.2) (setT M (set1 (mT M) p t)) := by
        obtain ⟨g1, g2, g3, g4, g5, g6, g7, g8⟩ := i2
        refine R3_mk g1 g2 (fun c hc => ?_) g4 g5 g6 g7 g8
        show _ = jI (set1 (mT M) p t c : Nat)
        by_cases z : c = p
        · subst z; rw [upd_s, set1_s]
        · rw [upd_n z, set1_n z]; exact g3 c hc
      have h8 : R8 (upd s (6 + p) (jI (t : Nat))) (setT M (set1 (mT M) p t)) := by
        obtain ⟨g1, g2, g3, g4, g5, g6, g7, g8⟩ := i3
        refine ⟨(upd_n (by omega)).trans g1, (upd_n (by omega)).trans g2, (upd_n (by omega)).trans g3, (upd_n (by omega)).trans g4, (upd_n (by omega)).trans g5, (upd_n (by omega)).trans g6, fun c hc => ?_, fun k hk => (upd_n (by omega)).trans (g8 k hk)⟩
        show _ = jI (set1 (mT M) p t c : Nat)
        by_cases z : c = p
        · subst z; rw [upd_s, set1_s]
        · rw [upd_n (by omega), set1_n z]; exact g7 c hc
      obtain ⟨h', p', m1, m2, m3⟩ := mutate (F := F) (bg := bg) (a := (mT M p : Int)) (by omega) hC hM h3 h8 (by omega)
      rw [if_pos (decide_eq_true h2), j_0, jlt_f hb (by omega) (by omega), j_9, jle_t hb (by omega) (by omega), at_i (by omega) (by omega), bnd_s, m1, bnd_s, put_i (by omega) (by omega), bnd_s, j6p, gdi (by omega) (by omega), gdi (by omega) (by omega), jcl _ (by omega), i3.2.2.2.2.2.2.1 p hp, m2, bnd_s]
      exact ⟨_, _, rfl, rfl, i2.2.2.1 p hp, _, _, _, kb, K, L, ch, m3, k1, k2, k3, k4, k5⟩
    · rw [if_neg (dnf h2)]
      have hcl : ∀ A : Option (Int32 × nF × HS), (if jI b < 0 then some ((-1 : Int32), o1.2.2.1, o3) else if jI b ≤ (9 : Int32) then A else some ((-1 : Int32), o1.2.2.1, o3)) = some ((-1 : Int32), o1.2.2.1, o3) := by
        intro A
        rw [j_0, j_9]
        by_cases z : b < 0
        · rw [jlt_t hb (by omega) z]
        · rw [jlt_f hb (by omega) (by omega), jle_f hb (by omega) (by omega)]
      rw [hcl]
      exact ⟨_, _, rfl, rfl, rfl, hI0⟩
  · rw [if_neg (dnf h1), if_neg (dnf h1)]
    exact ⟨_, _, rfl, rfl, rfl, hI0⟩
theorem part_nn (hw : WF M) : 0 ≤ partI M ∧ partI M < 2147483648 := by
  have hN := dm_le hw.1
  have := part_ge hw.w2
  unfold partI at *
  omega
theorem carve_s (hF : 400 < F) (hI : INV hs o1 o2 o3 o4 s kept ik past st text len) (ha : -2147483648 ≤ a ∧ a < 2147483648) (hb : -2147483648 ≤ b ∧ b < 2147483648) :
    ∃ o o', mX7_carve F o1 o3 w5 (jI a) (jI b) = some o ∧ mX8_carve F s bg past st far qu (jI a) (jI b) = some o' ∧ o.1 = o'.1 ∧ INV hs (o1.1, o1.2.1, o1.2.2.1, o.2.1, o1.2.2.2.2.1, o1.2.2.2.2.2) o2 o.2.2.1 o4 o'.2.1 kept ik o'.2.2.2.1 o'.2.2.2.2.1 text len := by
  have hI0 := hI
  obtain ⟨M, n, H, kb, K, L, ch, hC, k1, k2, k3, k4, k5⟩ := hI
  have i1 := hC.1
  have i2 := hC.2.1
  have i3 := hC.2.2.1
  have hN := dm_le i1.1
  unfold mX7_carve mX8_carve
  rw [hasCell3 i2 i1.1 ha, bnd_s, begins8 (by omega), bnd_s, isCell8 i3 i1.1 ha, bnd_s]
  simp only [jn_e, ifb]
  by_cases h1 : 0 ≤ a ∧ a < (mN M : Int)
  · rw [if_pos (decide_eq_true h1), if_pos (decide_eq_true h1), in8l 0 3 j_0 j_3 hb (by omega) (by omega), bnd_s, ifb, isDir3 hb, bnd_s, ifb]
    obtain ⟨p, rfl⟩ := Int.eq_ofNat_of_zero_le h1.1
    have hp : p < mN M := by omega
    by_cases h2 : 0 ≤ b ∧ b ≤ 3
    · obtain ⟨d, rfl⟩ := Int.eq_ofNat_of_zero_le h2.1
      have hd4 : d < 4 := by omega
      rw [if_pos (decide_eq_true h2), if_pos (decide_eq_true (show 0 ≤ (d : Int) ∧ (d : Int) < 4 by omega)), beside3 i2 i1.1 hp hd4, bnd_s, besides8 i3 i1.1 hp hd4, bnd_s]
      cases hn : nb (mC M) (mN M) p d with
      | none =>
        rw [oJ_none, if_pos (show jI (-1) = (-1 : Int32) by decide), if_pos (show jI (-1) < 0 by decide)]
        exact ⟨_, _, rfl, rfl, rfl, hI0⟩
      | some o =>
        have hno := num_lt i1.1 hp hd4 hn
        have hnb := nb_pl i1.1.1 i1.1.2.1 i1.1.2.2.1 i1.1.2.2.2 hp hd4 hn
        rw [oJ_some, if_neg (show ¬ jI (o : Nat) = (-1 : Int32) by rw [nem1 (by omega)]; exact id), if_neg (show ¬ jI (o : Nat) < 0 by rw [nn0 (by omega)]; exact id)]
        obtain ⟨w', q1, q2⟩ := findFrom3 (w := w5) (F := F) (by omega) i2 i1.w2 hp
        obtain ⟨z, z1⟩ := areJoined8 (f0 := far) (q0 := qu) (F := F) (by omega) i3 i1.w2 hp hno.2
        rw [q1, bnd_s, wq_reach i1.w2 hp hno.2 q2, bnd_s, ifb, z1, bnd_s, ifb]
        by_cases hj : 0 ≤ dst (mC M) (mO M) p o
        · rw [if_pos (decide_eq_true hj), if_pos (decide_eq_true hj)]
          exact ⟨_, _, rfl, rfl, rfl, hI0⟩
        · rw [if_neg (by rw [decide_eq_false hj]; exact Bool.noConfusion), if_neg (by rw [decide_eq_false hj]; exact Bool.noConfusion)]
          have hnc : ¬ conn (mC M) (mO M) p o := fun z => hj (dst_c.mpr z)
          have hM : WF (setO M (setE (mO M) (num (mC M) p d) true)) := by
            refine WF_setO i1 (vO_set i1.2.2.1 hnb.1) (forest_ins i1.2.2.2.1 ?_)
            rcases hnb.2.1 with ⟨x, y⟩ | ⟨x, y⟩ <;> rw [x, y]
            · exact hnc
            · exact fun z => hnc (conn_sy z)
          obtain ⟨pp, p1, p2⟩ := setPassage3 (t := true) i2 i1.1 hp hd4 hn
          have h8 := R8_set (t := true) i3 i1.1 hno.1
          have hpn := part_nn hM
          obtain ⟨h', p', m1, m2, m3⟩ := mutate (F := F) (bg := bg) (a := partI (setO M (setE (mO M) (num (mC M) p d) true))) (by omega) hC hM p2 h8 hpn
          have hpa := parts3 (F := F) (by omega) p2 hM.1 hM.2.2.1
          have hpa' : mX3_parts F (o1.1, o1.2.1, o1.2.2.1, pp, o1.2.2.2.2.1, o1.2.2.2.2.2) = _ := hpa
          have hpb := parts8 (F := F) (by omega) h8 hM.1
          have p1' : mX3_setPassage o1 (jI (p : Int)) (jI (d : Int)) (1 : Int32) = some pp := p1
          rw [m1, bnd_s, p1', bnd_s, hpa', bnd_s, numberOf8 i3 i1.1 hp hd4 hn, bnd_s, j42p, gdi (by omega) (by omega), jcl _ (by omega)]
          have hpb' : mX8_parts F (upd s (42 + num (mC M) p d) (1 : Int32)) = _ := hpb
          have m2' : mX8_acted F (upd s (42 + num (mC M) p d) (1 : Int32)) (mix 114 s bg) past st _ = _ := m2
          rw [hpb', bnd_s, m2', bnd_s]
          exact ⟨_, _, rfl, rfl, rfl, _, _, _, kb, K, L, ch, m3, k1, k2, k3, k4, k5⟩
    · rw [if_neg (dnf h2), if_neg (dnf (show ¬ (0 ≤ b ∧ b < 4) by omega))]
      exact ⟨_, _, rfl, rfl, rfl, hI0⟩
  · rw [if_neg (dnf h1), if_neg (dnf h1)]
    exact ⟨_, _, rfl, rfl, rfl, hI0⟩
theorem wall_s (hF : 400 < F) (hI : INV hs o1 o2 o3 o4 s kept ik past st text len) (ha : -2147483648 ≤ a ∧ a < 2147483648) (hb : -2147483648 ≤ b ∧ b < 2147483648) :
    ∃ o o', mX7_wall F o1 o3 (jI a) (jI b) = some o ∧ mX8_wall F s bg past st (jI a) (jI b) = some o' ∧ o.1 = o'.1 ∧ INV hs (o1.1, o1.2.1, o1.2.2.1, o.2.1, o1.2.2.2.2.1, o1.2.2.2.2.2) o2 o.2.2 o4 o'.2.1 kept ik o'.2.2.2.1 o'.2.2.2.2 text len := by
  have hI0 := hI
  obtain ⟨M, n, H, kb, K, L, ch, hC, k1, k2, k3, k4, k5⟩ := hI
  have i1 := hC.1
  have i2 := hC.2.1
  have i3 := hC.2.2.1
  have hN := dm_le i1.1
  unfold mX7_wall mX8_wall
  rw [hasCell3 i2 i1.1 ha, bnd_s, begins8 (by omega), bnd_s, isCell8 i3 i1.1 ha, bnd_s]
  simp only [jn_e, ifb]
  by_cases h1 : 0 ≤ a ∧ a < (mN M : Int)
  · rw [if_pos (decide_eq_true h1), if_pos (decide_eq_true h1), in8l 0 3 j_0 j_3 hb (by omega) (by omega), bnd_s, ifb, isDir3 hb, bnd_s, ifb]
    obtain ⟨p, rfl⟩ := Int.eq_ofNat_of_zero_le h1.1
    have hp : p < mN M := by omega
    by_cases h2 : 0 ≤ b ∧ b ≤ 3
    · obtain ⟨d, rfl⟩ := Int.eq_ofNat_of_zero_le h2.1
      have hd4 : d < 4 := by omega
      rw [if_pos (decide_eq_true h2), if_pos (decide_eq_true (show 0 ≤ (d : Int) ∧ (d : Int) < 4 by omega)), hasP3 i2 i1.1 hp hd4, bnd_s, ifb, isOpen8 i3 i1.1 hp hd4, bnd_s, ifb]
      by_cases ho : opn (mC M) (mN M) (mO M) p d = true
      · obtain ⟨o, hn, hoo⟩ := opn_t.mp ho
        have hno := num_lt i1.1 hp hd4 hn
        have hnb := nb_pl i1.1.1 i1.1.2.1 i1.1.2.2.1 i1.1.2.2.2 hp hd4 hn
        rw [if_pos ho, if_pos ho]
        have hM : WF (setO M (setE (mO M) (num (mC M) p d) false)) := WF_setO i1 (fun k hk => i1.2.2.1 k (del_mo k hk)) (forest_del i1.2.2.2.1)
        obtain ⟨pp, p1, p2⟩ := setPassage3 (t := false) i2 i1.1 hp hd4 hn
        have h8 := R8_set (t := false) i3 i1.1 hno.1
        have hpn := part_nn hM
        obtain ⟨h', p', m1, m2, m3⟩ := mutate (F := F) (bg := bg) (a := partI (setO M (setE (mO M) (num (mC M) p d) false))) (by omega) hC hM p2 h8 hpn
        have hpa := parts3 (F := F) (by omega) p2 hM.1 hM.2.2.1
        have hpa' : mX3_parts F (o1.1, o1.2.1, o1.2.2.1, pp, o1.2.2.2.2.1, o1.2.2.2.2.2) = _ := hpa
        have hpb := parts8 (F := F) (by omega) h8 hM.1
        have p1' : mX3_setPassage o1 (jI (p : Int)) (jI (d : Int)) (0 : Int32) = some pp := p1
        rw [m1, bnd_s, p1', bnd_s, hpa', bnd_s, numberOf8 i3 i1.1 hp hd4 hn, bnd_s, j42p, gdi (by omega) (by omega), jcl _ (by omega)]
        have hpb' : mX8_parts F (upd s (42 + num (mC M) p d) (0 : Int32)) = _ := hpb
        have m2' : mX8_acted F (upd s (42 + num (mC M) p d) (0 : Int32)) (mix 114 s bg) past st _ = _ := m2
        rw [hpb', bnd_s, m2', bnd_s]
        exact ⟨_, _, rfl, rfl, rfl, _, _, _, kb, K, L, ch, m3, k1, k2, k3, k4, k5⟩
      · rw [if_neg ho, if_neg ho]
        exact ⟨_, _, rfl, rfl, rfl, hI0⟩
    · rw [if_neg (dnf h2), if_neg (dnf (show ¬ (0 ≤ b ∧ b < 4) by omega))]
      exact ⟨_, _, rfl, rfl, rfl, hI0⟩
  · rw [if_neg (dnf h1), if_neg (dnf h1)]
    exact ⟨_, _, rfl, rfl, rfl, hI0⟩
theorem build_s {w9 : BD} (hF : 400 < F) (hI : INV hs o1 o2 o3 o4 s kept ik past st text len) :
    ∃ o o', mX7_build F o1 o3 w9 = some o ∧ mX8_build F s bg past st far qu = some o' ∧ o.1 = o'.1 ∧ INV hs (o1.1, o1.2.1, o1.2.2.1, o.2.1, o1.2.2.2.2.1, o1.2.2.2.2.2) o2 o.2.2.1 o4 o'.2.1 kept ik o'.2.2.2.1 o'.2.2.2.2.1 text len := by
  have hI0 := hI
  obtain ⟨M, n, H, kb, K, L, ch, hC, k1, k2, k3, k4, k5⟩ := hI
  have i1 := hC.1
  have i2 := hC.2.1
  have i3 := hC.2.2.1
  have hN := dm_le i1.1
  unfold mX7_build mX8_build
  rw [isWhole3 (by omega) i2 i1.1 i1.2.2.1, bnd_s, ifb, begins8 (by omega), bnd_s, isWhole8 (by omega) i3 i1.1, bnd_s, ifb]
  by_cases h1 : partI M = 1
  · rw [if_pos (decide_eq_true h1), if_pos (decide_eq_true h1)]
    exact ⟨_, _, rfl, rfl, rfl, hI0⟩
  · rw [if_neg (dnf h1), if_neg (dnf h1)]
    have hpg := part_ge i1.w2
    have hpl : partI M ≤ 36 := by unfold partI; omega
    obtain ⟨g, p, b1, b2⟩ := joinAll3 (F := F) (f := w9) (by omega) i2 i1
    simp only [jn_e]
    obtain ⟨z, z1, z2, z3⟩ := build_out8 (F := F) (f0 := far) (q0 := qu) (j4 := mX8_build_K130 F past st (mix 114 s bg)) (by omega) i3 i1
    obtain ⟨hM, -⟩ := bit_wf i1 (partI M - 1).toNat (by omega)
    obtain ⟨h', p', m1, m2, m3⟩ := mutate (F := F) (bg := bg) (a := partI M - 1) (by omega) hC hM b2 z2 (by omega)
    rw [m1, bnd_s, b1, bnd_s, z3]
    simp only [mX8_build_K130, z1]
    rw [m2, bnd_s]
    exact ⟨_, _, rfl, rfl, rfl, _, _, _, kb, K, L, ch, m3, k1, k2, k3, k4, k5⟩
end ST
end
