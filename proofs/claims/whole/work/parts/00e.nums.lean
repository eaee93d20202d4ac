/-! NUMBERS: an Int32 by an integer -/
def jI (n : Int) : Int32 := Int32.ofInt n
theorem jI_nI (n : Nat) : jI n = nI n := Int32.ofInt_eq_ofNat
theorem jI_oN (n : Nat) : Int32.ofNat n = jI n := Int32.ofInt_eq_ofNat.symm
theorem jI_add (a b : Int) : jI a + jI b = jI (a + b) := (Int32.ofInt_add a b).symm
theorem jI_sub (a b : Int) : jI a - jI b = jI (a - b) := (Int32.ofInt_sub a b).symm
theorem jI_mul (a b : Int) : jI a * jI b = jI (a * b) := (Int32.ofInt_mul a b).symm
theorem jI_neg (a : Int) : -jI a = jI (-a) := (Int32.ofInt_neg a).symm
theorem jI_ti {a : Int} (h1 : -2147483648 ≤ a) (h2 : a < 2147483648) : (jI a).toInt = a := Int32.toInt_ofInt_of_le h1 h2
theorem jI_lt {a b : Int} (h1 : -2147483648 ≤ a) (h2 : a < 2147483648) (h3 : -2147483648 ≤ b) (h4 : b < 2147483648) : (jI a < jI b) = (a < b) := by
  rw [Int32.lt_iff_toInt_lt, jI_ti h1 h2, jI_ti h3 h4]
theorem jI_le {a b : Int} (h1 : -2147483648 ≤ a) (h2 : a < 2147483648) (h3 : -2147483648 ≤ b) (h4 : b < 2147483648) : (jI a ≤ jI b) = (a ≤ b) := by
  rw [Int32.le_iff_toInt_le, jI_ti h1 h2, jI_ti h3 h4]
theorem jI_eq {a b : Int} (h1 : -2147483648 ≤ a) (h2 : a < 2147483648) (h3 : -2147483648 ≤ b) (h4 : b < 2147483648) : (jI a = jI b) = (a = b) := by
  rw [← Int32.toInt_inj, jI_ti h1 h2, jI_ti h3 h4]
theorem jI_div {a b : Int} (h1 : 0 ≤ a) (h2 : a < 2147483648) (h3 : 0 < b) (h4 : b < 2147483648) : jI a / jI b = jI (a / b) := by
  apply Int32.toInt_inj.mp
  have hne : jI b ≠ -1 := by
    intro e
    have := congrArg Int32.toInt e
    rw [jI_ti (by omega) h4] at this
    have h5 : (-1 : Int32).toInt = -1 := by decide
    omega
  have hd : a / b ≤ a := Int.ediv_le_self b h1
  have h0 : 0 ≤ a / b := Int.ediv_nonneg h1 (by omega)
  rw [Int32.toInt_div_of_ne_right _ _ hne, jI_ti (by omega) h2, jI_ti (by omega) h4, jI_ti (by omega) (by omega), Int.tdiv_eq_ediv_of_nonneg h1]
theorem jI_cl {a : Int} (h1 : -2147483648 ≤ a) (h2 : a < 2147483648) : (jI a).toNatClampNeg = a.toNat := Int32.toNatClampNeg_ofInt_of_le h1 h2
theorem jI_cn {n : Nat} (h : n < 2147483648) : (jI n).toNatClampNeg = n := by rw [jI_cl (by omega) (by omega)]; omega
theorem jI_inb {a : Int} {n : Nat} (h1 : -2147483648 ≤ a) (h2 : a < 2147483648) : inb (jI a) n = decide (0 ≤ a ∧ a < n) := by
  have h0 : (0 : Int32) = jI 0 := by decide
  unfold inb
  rw [h0]
  simp only [jI_lt h1 h2 (show -2147483648 ≤ (0 : Int) by omega) (show (0 : Int) < 2147483648 by omega), jI_cl h1 h2]
  by_cases h3 : a < 0
  · rw [decide_eq_true h3, decide_eq_false (show ¬ (0 ≤ a ∧ a < (n : Int)) by omega)]; rfl
  · rw [decide_eq_false h3]
    by_cases h4 : a < n
    · rw [decide_eq_true (show a.toNat < n by omega), decide_eq_true (show 0 ≤ a ∧ a < (n : Int) by omega)]; rfl
    · rw [decide_eq_false (show ¬ a.toNat < n by omega), decide_eq_false (show ¬ (0 ≤ a ∧ a < (n : Int)) by omega)]; rfl
theorem gd_t {β : Type} {k : Option β} : gd true k = k := rfl
theorem j_m1 : (-1 : Int32) = jI (-1) := by decide +kernel
theorem j_m2 : (-2 : Int32) = jI (-2) := by decide +kernel
theorem j_m3 : (-3 : Int32) = jI (-3) := by decide +kernel
theorem j_m4 : (-4 : Int32) = jI (-4) := by decide +kernel
theorem j_0 : (0 : Int32) = jI 0 := by decide +kernel
theorem j_1 : (1 : Int32) = jI 1 := by decide +kernel
theorem j_2 : (2 : Int32) = jI 2 := by decide +kernel
theorem j_3 : (3 : Int32) = jI 3 := by decide +kernel
theorem j_4 : (4 : Int32) = jI 4 := by decide +kernel
theorem j_5 : (5 : Int32) = jI 5 := by decide +kernel
theorem j_6 : (6 : Int32) = jI 6 := by decide +kernel
theorem j_7 : (7 : Int32) = jI 7 := by decide +kernel
theorem j_8 : (8 : Int32) = jI 8 := by decide +kernel
theorem j_9 : (9 : Int32) = jI 9 := by decide +kernel
theorem j_16 : (16 : Int32) = jI 16 := by decide +kernel
theorem j_31 : (31 : Int32) = jI 31 := by decide +kernel
theorem j_32 : (32 : Int32) = jI 32 := by decide +kernel
theorem j_36 : (36 : Int32) = jI 36 := by decide +kernel
theorem j_42 : (42 : Int32) = jI 42 := by decide +kernel
theorem j_47 : (47 : Int32) = jI 47 := by decide +kernel
theorem j_48 : (48 : Int32) = jI 48 := by decide +kernel
theorem j_57 : (57 : Int32) = jI 57 := by decide +kernel
theorem j_60 : (60 : Int32) = jI 60 := by decide +kernel
theorem j_63 : (63 : Int32) = jI 63 := by decide +kernel
theorem j_114 : (114 : Int32) = jI 114 := by decide +kernel
theorem j_126 : (126 : Int32) = jI 126 := by decide +kernel
theorem j_144 : (144 : Int32) = jI 144 := by decide +kernel
theorem j_324 : (324 : Int32) = jI 324 := by decide +kernel
theorem j_342 : (342 : Int32) = jI 342 := by decide +kernel
theorem j_1000000 : (1000000 : Int32) = jI 1000000 := by decide +kernel
theorem jS (k : Nat) : jI (k : Int) + (1 : Int32) = jI ((k + 1 : Nat) : Int) := by rw [j_1, jI_add]; rfl
theorem jnA (a b : Nat) : jI (a : Int) + jI (b : Int) = jI ((a + b : Nat) : Int) := by rw [jI_add]; rfl
theorem jnM (a b : Nat) : jI (a : Int) * jI (b : Int) = jI ((a * b : Nat) : Int) := by rw [jI_mul]; rfl
theorem j42p (k : Nat) : (42 : Int32) + jI (k : Int) = jI ((42 + k : Nat) : Int) := by rw [j_42, jI_add]; rfl
theorem j6p (k : Nat) : (6 : Int32) + jI (k : Int) = jI ((6 + k : Nat) : Int) := by rw [j_6, jI_add]; rfl
theorem j2m (k : Nat) : (2 : Int32) * jI (k : Int) = jI ((2 * k : Nat) : Int) := by rw [j_2, jI_mul]; rfl
theorem j4m (k : Nat) : (4 : Int32) * jI (k : Int) = jI ((4 * k : Nat) : Int) := by rw [j_4, jI_mul]; rfl
theorem j114m (k : Nat) : (114 : Int32) * jI (k : Int) = jI ((114 * k : Nat) : Int) := by rw [j_114, jI_mul]; rfl
theorem jN (k : Nat) : Int32.ofNat k = jI (k : Int) := jI_oN k
theorem jZ : (0 : Int32) = jI ((0 : Nat) : Int) := by decide +kernel
theorem jcl (k : Nat) (h : k < 2147483648) : (jI (k : Int)).toNatClampNeg = k := jI_cn h
theorem gdi {β : Type} {a n : Nat} {K : Option β} (h : a < n) (hn : n < 100000) : gd (inb (jI (a : Int)) n) K = K := by
  rw [jI_inb (by omega) (by omega), decide_eq_true (by omega)]; rfl
theorem nle {a b : Nat} (ha : a < 100000) (hb : b < 100000) : (jI (a : Int) ≤ jI (b : Int)) = (a ≤ b) := by rw [jI_le (by omega) (by omega) (by omega) (by omega)]; exact propext (by omega)
theorem nlt {a b : Nat} (ha : a < 100000) (hb : b < 100000) : (jI (a : Int) < jI (b : Int)) = (a < b) := by rw [jI_lt (by omega) (by omega) (by omega) (by omega)]; exact propext (by omega)
theorem neq {a b : Nat} (ha : a < 100000) (hb : b < 100000) : (jI (a : Int) = jI (b : Int)) = (a = b) := by rw [jI_eq (by omega) (by omega) (by omega) (by omega)]; exact propext (by omega)
theorem ndiv {a b : Nat} (ha : a < 100000) (hb : b < 100000) (h0 : 0 < b) : jI (a : Int) / jI (b : Int) = jI ((a / b : Nat) : Int) := by
  rw [jI_div (by omega) (by omega) (by omega) (by omega)]; rfl
theorem nn0 {a : Nat} (ha : a < 100000) : (jI (a : Int) < 0) = False := by rw [j_0, jI_lt (by omega) (by omega) (by omega) (by omega)]; exact eq_false (by omega)
theorem n0l {a : Nat} (ha : a < 100000) : ((0 : Int32) ≤ jI (a : Int)) = True := by rw [j_0, jI_le (by omega) (by omega) (by omega) (by omega)]; exact eq_true (by omega)
theorem nle0 {a : Nat} (ha : a < 100000) : (jI (a : Int) ≤ 0) = (a = 0) := by rw [j_0, jI_le (by omega) (by omega) (by omega) (by omega)]; exact propext (by omega)
theorem ne0 {a : Nat} (ha : a < 100000) : (jI (a : Int) = 0) = (a = 0) := by rw [j_0, jI_eq (by omega) (by omega) (by omega) (by omega)]; exact propext (by omega)
theorem nem1 {a : Nat} (ha : a < 100000) : (jI (a : Int) = (-1 : Int32)) = False := by rw [j_m1, jI_eq (by omega) (by omega) (by omega) (by omega)]; exact eq_false (by omega)
theorem gnz {β : Type} {a : Nat} {K : Option β} (h : 0 < a) (ha : a < 100000) : gd (nz (jI (a : Int))) K = K := by
  have : ¬ (jI (a : Int) = 0) := by rw [ne0 ha]; omega
  unfold nz
  rw [decide_eq_false this]; rfl
theorem gz0 {β : Type} {K : Option β} : gd (zb (0 : Int32)) K = K := rfl
theorem gz1 {β : Type} {K : Option β} : gd (zb (1 : Int32)) K = K := rfl
theorem gn2 {β : Type} {K : Option β} : gd (nz (2 : Int32)) K = K := rfl
theorem gn4 {β : Type} {K : Option β} : gd (nz (4 : Int32)) K = K := rfl
theorem ne10 : ((1 : Int32) = 0) = False := eq_false (by decide)
theorem eq00 : ((0 : Int32) = 0) = True := eq_true rfl
theorem eq11 : ((1 : Int32) = 1) = True := eq_true rfl
theorem ne01 : ((0 : Int32) = 1) = False := eq_false (by decide)
theorem jl_0 : (0 : Int32) = jI ((0 : Nat) : Int) := by decide +kernel
theorem jl_1 : (1 : Int32) = jI ((1 : Nat) : Int) := by decide +kernel
theorem jl_2 : (2 : Int32) = jI ((2 : Nat) : Int) := by decide +kernel
theorem jl_3 : (3 : Int32) = jI ((3 : Nat) : Int) := by decide +kernel
theorem jl_4 : (4 : Int32) = jI ((4 : Nat) : Int) := by decide +kernel
theorem jl_5 : (5 : Int32) = jI ((5 : Nat) : Int) := by decide +kernel
theorem jl_6 : (6 : Int32) = jI ((6 : Nat) : Int) := by decide +kernel
theorem jl_7 : (7 : Int32) = jI ((7 : Nat) : Int) := by decide +kernel
theorem jl_8 : (8 : Int32) = jI ((8 : Nat) : Int) := by decide +kernel
theorem jl_9 : (9 : Int32) = jI ((9 : Nat) : Int) := by decide +kernel
theorem jl_16 : (16 : Int32) = jI ((16 : Nat) : Int) := by decide +kernel
theorem jl_31 : (31 : Int32) = jI ((31 : Nat) : Int) := by decide +kernel
theorem jl_32 : (32 : Int32) = jI ((32 : Nat) : Int) := by decide +kernel
theorem jl_36 : (36 : Int32) = jI ((36 : Nat) : Int) := by decide +kernel
theorem jl_42 : (42 : Int32) = jI ((42 : Nat) : Int) := by decide +kernel
theorem jl_47 : (47 : Int32) = jI ((47 : Nat) : Int) := by decide +kernel
theorem jl_48 : (48 : Int32) = jI ((48 : Nat) : Int) := by decide +kernel
theorem jl_57 : (57 : Int32) = jI ((57 : Nat) : Int) := by decide +kernel
theorem jl_60 : (60 : Int32) = jI ((60 : Nat) : Int) := by decide +kernel
theorem jl_63 : (63 : Int32) = jI ((63 : Nat) : Int) := by decide +kernel
theorem jl_114 : (114 : Int32) = jI ((114 : Nat) : Int) := by decide +kernel
theorem jl_126 : (126 : Int32) = jI ((126 : Nat) : Int) := by decide +kernel
theorem jl_144 : (144 : Int32) = jI ((144 : Nat) : Int) := by decide +kernel
theorem jl_324 : (324 : Int32) = jI ((324 : Nat) : Int) := by decide +kernel
theorem jl_342 : (342 : Int32) = jI ((342 : Nat) : Int) := by decide +kernel
theorem jl_1000000 : (1000000 : Int32) = jI ((1000000 : Nat) : Int) := by decide +kernel
theorem upd_s {f : nF} {k : Nat} {x : Int32} : upd f k x k = x := if_pos rfl
theorem upd_n {f : nF} {k j : Nat} {x : Int32} (h : j ≠ k) : upd f k x j = f j := if_neg h
theorem at_i {n k : Nat} {f : nF} (h : k < n) (hn : n < 100000) : mX7_at n f (jI (k : Int)) = some (f k) := by
  simp only [mX7_at, jn_e, jN]
  rw [if_neg (by rw [nn0 (by omega)]; exact fun h => h), if_neg (by rw [nle hn (by omega)]; omega), gdi h hn, jcl _ (by omega)]
theorem at_o {n : Nat} {i : Int} {f : nF} (h : i < 0 ∨ (n : Int) ≤ i) (hn : n < 100000) (h1 : -2147483648 ≤ i) (h2 : i < 2147483648) : mX7_at n f (jI i) = some 0 := by
  simp only [mX7_at, jn_e, jI_oN]
  simp only [j_0, jI_lt h1 h2 (show -2147483648 ≤ (0 : Int) by omega) (show (0 : Int) < 2147483648 by omega), jI_le (show -2147483648 ≤ (n : Int) by omega) (show (n : Int) < 2147483648 by omega) h1 h2]
  by_cases h3 : i < 0
  · rw [if_pos h3]
  · rw [if_neg h3, if_pos (by omega)]
theorem put_i {n k : Nat} {f : nF} {x : Int32} (h : k < n) (hn : n < 100000) : mX7_put n f (jI (k : Int)) x = some (upd f k x) := by
  simp only [mX7_put, jn_e, jN]
  rw [if_neg (by rw [nn0 (by omega)]; exact fun h => h), if_neg (by rw [nle hn (by omega)]; omega), gdi h hn, jcl _ (by omega)]
theorem put_o {n : Nat} {i : Int} {f : nF} {x : Int32} (h : i < 0 ∨ (n : Int) ≤ i) (hn : n < 100000) (h1 : -2147483648 ≤ i) (h2 : i < 2147483648) : mX7_put n f (jI i) x = some f := by
  simp only [mX7_put, jn_e, jI_oN]
  simp only [j_0, jI_lt h1 h2 (show -2147483648 ≤ (0 : Int) by omega) (show (0 : Int) < 2147483648 by omega), jI_le (show -2147483648 ≤ (n : Int) by omega) (show (n : Int) < 2147483648 by omega) h1 h2]
  by_cases h3 : i < 0
  · rw [if_pos h3]
  · rw [if_neg h3, if_pos (by omega)]
def bI (b : Bool) : Int32 := if b = true then 1 else 0
theorem bIt0 : ¬ bI true = 0 := by decide
theorem ifb {β : Type} {b : Bool} {inst : Decidable (bI b = 0)} {A B : β} : @ite β (bI b = 0) inst A B = if b = true then B else A := by
  cases b
  · rw [if_pos (show bI false = 0 from rfl)]; rfl
  · rw [if_neg bIt0]; rfl
theorem gzb {β : Type} {b : Bool} {K : Option β} : gd (zb (bI b)) K = K := by cases b <;> rfl
theorem bI1 {b : Bool} : (bI b = 1) = (b = true) := by cases b <;> decide
theorem bI_t : bI true = 1 := rfl
theorem bI_f : bI false = 0 := rfl
theorem bI_p {P : Prop} [Decidable P] (h : P) : bI (decide P) = 1 := by rw [decide_eq_true h]; rfl
theorem bI_n {P : Prop} [Decidable P] (h : ¬ P) : bI (decide P) = 0 := by rw [decide_eq_false h]; rfl
theorem jI_ge (g : Int32) : jI g.toInt = g := Int32.ofInt_toInt g
theorem ti_b (g : Int32) : -2147483648 ≤ g.toInt ∧ g.toInt < 2147483648 := ⟨Int32.le_toInt g, Int32.toInt_lt g⟩
theorem jlt {a b : Int} (h1 : -2147483648 ≤ a ∧ a < 2147483648) (h2 : -2147483648 ≤ b ∧ b < 2147483648) : (jI a < jI b) = (a < b) := jI_lt h1.1 h1.2 h2.1 h2.2
theorem jle {a b : Int} (h1 : -2147483648 ≤ a ∧ a < 2147483648) (h2 : -2147483648 ≤ b ∧ b < 2147483648) : (jI a ≤ jI b) = (a ≤ b) := jI_le h1.1 h1.2 h2.1 h2.2
theorem jeq {a b : Int} (h1 : -2147483648 ≤ a ∧ a < 2147483648) (h2 : -2147483648 ≤ b ∧ b < 2147483648) : (jI a = jI b) = (a = b) := jI_eq h1.1 h1.2 h2.1 h2.2
theorem cl0 : (0 : Int32).toNatClampNeg = 0 := by decide +kernel
theorem cl1 : (1 : Int32).toNatClampNeg = 1 := by decide +kernel
theorem cl2 : (2 : Int32).toNatClampNeg = 2 := by decide +kernel
theorem cl3 : (3 : Int32).toNatClampNeg = 3 := by decide +kernel
theorem cl4 : (4 : Int32).toNatClampNeg = 4 := by decide +kernel
theorem cl5 : (5 : Int32).toNatClampNeg = 5 := by decide +kernel
theorem gl0 {β : Type} {K : Option β} : gd (inb (0 : Int32) 114) K = K := by rw [show inb (0 : Int32) 114 = true by decide +kernel]; rfl
theorem gl1 {β : Type} {K : Option β} : gd (inb (1 : Int32) 114) K = K := by rw [show inb (1 : Int32) 114 = true by decide +kernel]; rfl
theorem gl2 {β : Type} {K : Option β} : gd (inb (2 : Int32) 114) K = K := by rw [show inb (2 : Int32) 114 = true by decide +kernel]; rfl
theorem gl3 {β : Type} {K : Option β} : gd (inb (3 : Int32) 114) K = K := by rw [show inb (3 : Int32) 114 = true by decide +kernel]; rfl
theorem gl4 {β : Type} {K : Option β} : gd (inb (4 : Int32) 114) K = K := by rw [show inb (4 : Int32) 114 = true by decide +kernel]; rfl
theorem gl5 {β : Type} {K : Option β} : gd (inb (5 : Int32) 114) K = K := by rw [show inb (5 : Int32) 114 = true by decide +kernel]; rfl
theorem gl036 {β : Type} {K : Option β} : gd (inb (0 : Int32) 36) K = K := by rw [show inb (0 : Int32) 36 = true by decide +kernel]; rfl
