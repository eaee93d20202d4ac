/-! SPEC, first part: what the small methods of both sides answer, by the maze -/
section IFS
variable {β : Type} {A B : β}
theorem nle_t {a b : Nat} {inst : Decidable (jI (a : Int) ≤ jI (b : Int))} (h : a ≤ b) (hb : b < 100000) : @ite β (jI (a : Int) ≤ jI (b : Int)) inst A B = A := if_pos (by rw [nle (by omega) hb]; exact h)
theorem nle_f {a b : Nat} {inst : Decidable (jI (a : Int) ≤ jI (b : Int))} (h : b < a) (ha : a < 100000) : @ite β (jI (a : Int) ≤ jI (b : Int)) inst A B = B := if_neg (by rw [nle ha (by omega)]; omega)
theorem nlt_t {a b : Nat} {inst : Decidable (jI (a : Int) < jI (b : Int))} (h : a < b) (hb : b < 100000) : @ite β (jI (a : Int) < jI (b : Int)) inst A B = A := if_pos (by rw [nlt (by omega) hb]; exact h)
theorem nlt_f {a b : Nat} {inst : Decidable (jI (a : Int) < jI (b : Int))} (h : b ≤ a) (ha : a < 100000) : @ite β (jI (a : Int) < jI (b : Int)) inst A B = B := if_neg (by rw [nlt ha (by omega)]; omega)
theorem neq_t {a b : Nat} {inst : Decidable (jI (a : Int) = jI (b : Int))} (h : a = b) : @ite β (jI (a : Int) = jI (b : Int)) inst A B = A := if_pos (by rw [h])
theorem neq_f {a b : Nat} {inst : Decidable (jI (a : Int) = jI (b : Int))} (h : a ≠ b) (ha : a < 100000) (hb : b < 100000) : @ite β (jI (a : Int) = jI (b : Int)) inst A B = B := if_neg (by rw [neq ha hb]; exact h)
theorem jle_t {a b : Int} {inst : Decidable (jI a ≤ jI b)} (h1 : -2147483648 ≤ a ∧ a < 2147483648) (h2 : -2147483648 ≤ b ∧ b < 2147483648) (h : a ≤ b) : @ite β (jI a ≤ jI b) inst A B = A := if_pos (by rw [jle h1 h2]; exact h)
theorem jle_f {a b : Int} {inst : Decidable (jI a ≤ jI b)} (h1 : -2147483648 ≤ a ∧ a < 2147483648) (h2 : -2147483648 ≤ b ∧ b < 2147483648) (h : b < a) : @ite β (jI a ≤ jI b) inst A B = B := if_neg (by rw [jle h1 h2]; omega)
theorem jlt_t {a b : Int} {inst : Decidable (jI a < jI b)} (h1 : -2147483648 ≤ a ∧ a < 2147483648) (h2 : -2147483648 ≤ b ∧ b < 2147483648) (h : a < b) : @ite β (jI a < jI b) inst A B = A := if_pos (by rw [jlt h1 h2]; exact h)
theorem jlt_f {a b : Int} {inst : Decidable (jI a < jI b)} (h1 : -2147483648 ≤ a ∧ a < 2147483648) (h2 : -2147483648 ≤ b ∧ b < 2147483648) (h : b ≤ a) : @ite β (jI a < jI b) inst A B = B := if_neg (by rw [jlt h1 h2]; omega)
theorem jeq_t {a b : Int} {inst : Decidable (jI a = jI b)} (h : a = b) : @ite β (jI a = jI b) inst A B = A := if_pos (by rw [h])
theorem jeq_f {a b : Int} {inst : Decidable (jI a = jI b)} (h1 : -2147483648 ≤ a ∧ a < 2147483648) (h2 : -2147483648 ≤ b ∧ b < 2147483648) (h : a ≠ b) : @ite β (jI a = jI b) inst A B = B := if_neg (by rw [jeq h1 h2]; exact h)
end IFS
def R3 (v : MZ) (M : Mz) : Prop := v.1 = jI (mC M : Nat) ∧ v.2.1 = jI (mR M : Nat) ∧ (∀ c, c < mN M → v.2.2.1 c = jI (mT M c : Nat)) ∧ (∀ c, c < mN M → v.2.2.2.1 c = jI (mask (mC M) (mN M) (mO M) c : Nat)) ∧
  v.2.2.2.2.1 0 = jI (mE M : Nat) ∧ v.2.2.2.2.1 1 = jI (mX M : Nat) ∧ v.2.2.2.2.2 0 = jI (mEs M : Nat) ∧ v.2.2.2.2.2 1 = jI (mXs M : Nat)
def b01 (b : Bool) : Nat := if b = true then 1 else 0
def R8 (s : nF) (M : Mz) : Prop := s 0 = jI (mC M : Nat) ∧ s 1 = jI (mR M : Nat) ∧ s 2 = jI (mE M : Nat) ∧ s 3 = jI (mEs M : Nat) ∧ s 4 = jI (mX M : Nat) ∧ s 5 = jI (mXs M : Nat) ∧ (∀ c, c < mN M → s (6 + c) = jI (mT M c : Nat)) ∧ ∀ k, k < 2 * mN M → s (42 + k) = jI (b01 (mO M k) : Nat)
def zD : MZ := (0, 0, fun _ => 0, fun _ => 0, fun _ => 0, fun _ => 0)
def sD (C R : Nat) : nF := fun j => if j = 0 then jI (C : Nat) else jI (R : Nat)
theorem beside_all : (List.range 7).all (fun C => (List.range 7).all (fun R => !(decide (2 ≤ C)) || !(decide (2 ≤ R)) || (List.range (C * R)).all (fun c => (List.range 4).all (fun d => decide (mX3_beside (jI (C : Nat), jI (R : Nat), zD.2.2) (jI (c : Nat)) (jI (d : Nat)) = some (oJ (nb C (C * R) c d))))))) = true := by decide +kernel
theorem besides_all : (List.range 7).all (fun C => (List.range 7).all (fun R => !(decide (2 ≤ C)) || !(decide (2 ≤ R)) || (List.range (C * R)).all (fun c => (List.range 4).all (fun d => decide (mX8_besides (sD C R) (jI (c : Nat)) (jI (d : Nat)) = some (oJ (nb C (C * R) c d))))))) = true := by decide +kernel
theorem opn_all : (List.range 7).all (fun C => (List.range 7).all (fun R => !(decide (2 ≤ C)) || !(decide (2 ≤ R)) || (List.range (C * R)).all (fun c => (List.range 4).all (fun d => (nb C (C * R) c d).isNone || decide (mX8_numberOf (sD C R) (jI (c : Nat)) (jI (d : Nat)) = some (jI (num C c d : Nat))))))) = true := by decide +kernel
theorem low_all : (List.range 72).all (fun k => decide (mX3_lowEnd (jI (k : Nat)) = some (jI (k / 2 : Nat))) && decide (mX3_placeDirection (jI (k : Nat)) = some (jI (pdr k : Nat)))) = true := by decide +kernel
theorem oJ_some {x : Nat} : oJ (some x) = jI (x : Nat) := rfl
theorem oJ_none : oJ none = jI (-1) := rfl
section S3
variable {v : MZ} {s : nF} {M : Mz} {c d k F : Nat}
theorem dm_le (hd : dm M) : 2 ≤ mC M ∧ mC M ≤ 6 ∧ 2 ≤ mR M ∧ mR M ≤ 6 ∧ 4 ≤ mN M ∧ mN M ≤ 36 ∧ mC M ≤ mN M ∧ mC M * mR M = mN M := ⟨hd.1, hd.2.1, hd.2.2.1, hd.2.2.2, (dm_N hd).2.1, (dm_N hd).2.2.1, (dm_N hd).2.2.2, rfl⟩
theorem cells3 (h : R3 v M) : mX3_cells v = some (jI (mN M : Nat)) := by
  simp only [mX3_cells, h.1, h.2.1, jnM]; rfl
theorem places3 (h : R3 v M) : mX3_places v = some (jI (2 * mN M : Nat)) := by
  simp only [mX3_places, cells3 h, bnd_s, j2m]
theorem hasCell3 (h : R3 v M) (hd : dm M) {a : Int} (hb : -2147483648 ≤ a ∧ a < 2147483648) : mX3_hasCell v (jI a) = some (bI (decide (0 ≤ a ∧ a < (mN M : Nat)))) := by
  have hN := dm_le hd
  simp only [mX3_hasCell, cells3 h, jn_e, bnd_s, j_0, j_1]
  by_cases h1 : a < 0
  · rw [jlt_t hb (by omega) h1, bI_n (by omega)]; rfl
  · rw [jlt_f hb (by omega) (by omega)]
    by_cases h2 : (mN M : Int) ≤ a
    · rw [jle_t (by omega) hb h2, bI_n (by omega)]; rfl
    · rw [jle_f (by omega) hb (by omega), bI_p (by omega)]; rfl
theorem isDir3 {a : Int} (hb : -2147483648 ≤ a ∧ a < 2147483648) : mX7_isDirection (jI a) = some (bI (decide (0 ≤ a ∧ a < 4))) := by
  simp only [mX7_isDirection, jn_e, j_0, j_1, j_4]
  by_cases h1 : a < 0
  · rw [jlt_t hb (by omega) h1, bI_n (by omega)]; rfl
  · rw [jlt_f hb (by omega) (by omega)]
    by_cases h2 : 4 ≤ a
    · rw [jle_t (by omega) hb h2, bI_n (by omega)]; rfl
    · rw [jle_f (by omega) hb (by omega), bI_p (by omega)]; rfl
theorem isDoor3 {a : Int} (hb : -2147483648 ≤ a ∧ a < 2147483648) : mX7_isDoor (jI a) = some (bI (decide (0 ≤ a ∧ a < 2))) := by
  simp only [mX7_isDoor, jn_e, j_0, j_1, j_2]
  by_cases h1 : a < 0
  · rw [jlt_t hb (by omega) h1, bI_n (by omega)]; rfl
  · rw [jlt_f hb (by omega) (by omega)]
    by_cases h2 : 2 ≤ a
    · rw [jle_t (by omega) hb h2, bI_n (by omega)]; rfl
    · rw [jle_f (by omega) hb (by omega), bI_p (by omega)]; rfl
theorem in8 {a l u : Int} (hb : -2147483648 ≤ a ∧ a < 2147483648) (hl : -2147483648 ≤ l ∧ l < 2147483648) (hu : -2147483648 ≤ u ∧ u < 2147483648) : mX8_in (jI a) (jI l) (jI u) = some (bI (decide (l ≤ a ∧ a ≤ u))) := by
  simp only [mX8_in, jn_e, j_0, j_1]
  by_cases h1 : a < l
  · rw [jlt_t hb hl h1, bI_n (by omega)]; rfl
  · rw [jlt_f hb hl (by omega)]
    by_cases h2 : u < a
    · rw [jlt_t hu hb h2, bI_n (by omega)]; rfl
    · rw [jlt_f hu hb (by omega), bI_p (by omega)]; rfl
theorem cells8 (h : R8 s M) : mX8_cells s = some (jI (mN M : Nat)) := by
  simp only [mX8_cells, gl0, gl1, cl0, cl1, h.1, h.2.1, jnM]; rfl
theorem isCell8 (h : R8 s M) (hd : dm M) {a : Int} (hb : -2147483648 ≤ a ∧ a < 2147483648) : mX8_isCell s (jI a) = some (bI (decide (0 ≤ a ∧ a < (mN M : Nat)))) := by
  have hN := dm_le hd
  simp only [mX8_isCell, cells8 h, bnd_s, j_0, j_1, jI_sub]
  rw [in8 hb (by omega) (by omega), bnd_s, gzb]
  congr 2
  exact decide_eq_decide.mpr (by omega)
theorem beside3 (h : R3 v M) (hd : dm M) (hc : c < mN M) (hdd : d < 4) : mX3_beside v (jI (c : Nat)) (jI (d : Nat)) = some (oJ (nb (mC M) (mN M) c d)) := by
  have e := of_decide_eq_true (grid_all beside_all hd.1 hd.2.1 hd.2.2.1 hd.2.2.2 hc hdd)
  rw [← h.1, ← h.2.1] at e
  exact e
theorem besides8 (h : R8 s M) (hd : dm M) (hc : c < mN M) (hdd : d < 4) : mX8_besides s (jI (c : Nat)) (jI (d : Nat)) = some (oJ (nb (mC M) (mN M) c d)) := by
  have e := of_decide_eq_true (grid_all besides_all hd.1 hd.2.1 hd.2.2.1 hd.2.2.2 hc hdd)
  have e2 : mX8_besides s (jI (c : Nat)) (jI (d : Nat)) = mX8_besides (sD (mC M) (mR M)) (jI (c : Nat)) (jI (d : Nat)) := by
    simp only [mX8_besides, cl0, cl1, h.1, h.2.1, show sD (mC M) (mR M) 0 = jI (mC M : Nat) from rfl, show sD (mC M) (mR M) 1 = jI (mR M : Nat) from rfl]
  rw [e2]; exact e
theorem numberOf8 (h : R8 s M) (hd : dm M) (hc : c < mN M) (hdd : d < 4) {o : Nat} (ho : nb (mC M) (mN M) c d = some o) : mX8_numberOf s (jI (c : Nat)) (jI (d : Nat)) = some (jI (num (mC M) c d : Nat)) := by
  have e := grid_all opn_all hd.1 hd.2.1 hd.2.2.1 hd.2.2.2 hc hdd
  have ho' : nb (mC M) (mC M * mR M) c d = some o := ho
  rw [ho'] at e
  have e := of_decide_eq_true (Bool.or_eq_true_iff.mp e |>.resolve_left (by simp))
  have e2 : mX8_besides s (jI (c : Nat)) (jI (d : Nat)) = mX8_besides (sD (mC M) (mR M)) (jI (c : Nat)) (jI (d : Nat)) := by
    simp only [mX8_besides, cl0, cl1, h.1, h.2.1, show sD (mC M) (mR M) 0 = jI (mC M : Nat) from rfl, show sD (mC M) (mR M) 1 = jI (mR M : Nat) from rfl]
  unfold mX8_numberOf at e ⊢
  rw [e2]; exact e
theorem lowEnd3 (hk : k < 72) : mX3_lowEnd (jI (k : Nat)) = some (jI (pA k : Nat)) := by
  have := List.all_eq_true.mp low_all k (List.mem_range.mpr hk)
  exact of_decide_eq_true (Bool.and_eq_true_iff.mp this).1
theorem plDir3 (hk : k < 72) : mX3_placeDirection (jI (k : Nat)) = some (jI (pdr k : Nat)) := by
  have := List.all_eq_true.mp low_all k (List.mem_range.mpr hk)
  exact of_decide_eq_true (Bool.and_eq_true_iff.mp this).2
theorem num_lt (hd : dm M) (hc : c < mN M) (hdd : d < 4) {o : Nat} (ho : nb (mC M) (mN M) c d = some o) : num (mC M) c d < 2 * mN M ∧ o < mN M := by
  have := nb_pl hd.1 hd.2.1 hd.2.2.1 hd.2.2.2 hc hdd ho
  exact ⟨this.1.1, this.2.2.1⟩
theorem isOpen8 (h : R8 s M) (hd : dm M) (hc : c < mN M) (hdd : d < 4) : mX8_isOpen s (jI (c : Nat)) (jI (d : Nat)) = some (bI (opn (mC M) (mN M) (mO M) c d)) := by
  have hN := dm_le hd
  simp only [mX8_isOpen, besides8 h hd hc hdd, bnd_s, jn_e]
  cases ho : nb (mC M) (mN M) c d with
  | none =>
    rw [oJ_none, j_0, jlt_t (by omega) (by omega) (by omega)]
    simp only [opn, ho]; rfl
  | some o =>
    have hn := num_lt hd hc hdd ho
    rw [oJ_some, if_neg (by rw [nn0 (by omega)]; exact id), numberOf8 h hd hc hdd ho, bnd_s, j42p, gdi (by omega) (by omega), jcl _ (by omega), h.2.2.2.2.2.2.2 _ hn.1]
    simp only [opn, ho]
    cases mO M (num (mC M) c d)
    · rw [if_neg (by decide)]; rfl
    · rw [if_pos (by decide)]; rfl
/-- the second end of a place -/
def nd (C N k : Nat) : Option Nat := nb C N (pA k) (pdr k)
theorem gn2c {β : Type} {K : Option β} : gd (nz (jI ((2 : Nat) : Int))) K = K := gnz (by omega) (by omega)
theorem second8 (h : R8 s M) (hd : dm M) (hk : k < 2 * mN M) : mX8_second s (jI (k : Nat)) = some (oJ (nd (mC M) (mN M) k)) := by
  have hN := dm_le hd
  have hA : k / 2 < mN M := pA_lt hk
  unfold mX8_second
  simp only [gn2c, jn_e, jl_2, ndiv (show k < 100000 by omega) (show 2 < 100000 by omega) (show 0 < 2 by omega), jnM]
  have e1 : jI (k : Nat) - jI (k / 2 * 2 : Nat) = jI (k % 2 : Nat) := by rw [jI_sub]; congr 1; omega
  rw [e1]
  by_cases e : k % 2 = 0
  · rw [e, if_pos (by decide), jl_1, besides8 h hd hA (show 1 < 4 by omega)]
    simp only [bnd_s, nd, pdr, pA, if_pos e]
  · rw [show k % 2 = 1 by omega, if_neg (by decide), besides8 h hd hA (show 2 < 4 by omega)]
    simp only [bnd_s, nd, pdr, pA, if_neg e]
theorem highEnd3 (h : R3 v M) (hd : dm M) (hk : k < 2 * mN M) : mX3_highEnd v (jI (k : Nat)) = some (oJ (nd (mC M) (mN M) k)) := by
  have hN := dm_le hd
  simp only [mX3_highEnd, lowEnd3 (show k < 72 by omega), plDir3 (show k < 72 by omega), bnd_s, beside3 h hd (pA_lt hk) pdr_lt]
  rfl
theorem bits_has : ∀ a b c d : Bool, (∀ i : Fin 4, decide ((jI ((b01 a + 2 * b01 b + 4 * b01 c + 8 * b01 d : Nat) : Int) &&& ((1 : Int32) <<< (jI (i.val : Nat) &&& 31))) = 0) = !((if i.val = 0 then a else if i.val = 1 then b else if i.val = 2 then c else d))) := by decide +kernel
theorem mask_b {C N : Nat} {op : Op} : mask C N op c = b01 (opn C N op c 0) + 2 * b01 (opn C N op c 1) + 4 * b01 (opn C N op c 2) + 8 * b01 (opn C N op c 3) := by
  unfold mask b01
  split <;> split <;> split <;> split <;> rfl
theorem d4 {P : Nat → Prop} (hd : d < 4) (h0 : P 0) (h1 : P 1) (h2 : P 2) (h3 : P 3) : P d := by
  have : d = 0 ∨ d = 1 ∨ d = 2 ∨ d = 3 := by omega
  rcases this with rfl | rfl | rfl | rfl <;> assumption
theorem bit_has {C N : Nat} {op : Op} (hdd : d < 4) : ((jI (mask C N op c : Nat) &&& ((1 : Int32) <<< (jI (d : Nat) &&& 31))) = 0) = (opn C N op c d = false) := by
  rw [mask_b]
  have h := bits_has (opn C N op c 0) (opn C N op c 1) (opn C N op c 2) (opn C N op c 3) ⟨d, hdd⟩
  have e : (if d = 0 then opn C N op c 0 else if d = 1 then opn C N op c 1 else if d = 2 then opn C N op c 2 else opn C N op c 3) = opn C N op c d := d4 (P := fun d => (if d = 0 then opn C N op c 0 else if d = 1 then opn C N op c 1 else if d = 2 then opn C N op c 2 else opn C N op c 3) = opn C N op c d) hdd rfl rfl rfl rfl
  simp only [e] at h
  cases ho : opn C N op c d
  · rw [ho] at h; exact propext ⟨fun _ => rfl, fun _ => of_decide_eq_true h⟩
  · rw [ho] at h; exact propext ⟨fun q => absurd q (of_decide_eq_false h), fun q => by cases q⟩
theorem hasP3 (h : R3 v M) (hd : dm M) (hc : c < mN M) (hdd : d < 4) : mX3_hasPassage v (jI (c : Nat)) (jI (d : Nat)) = some (bI (opn (mC M) (mN M) (mO M) c d)) := by
  have hN := dm_le hd
  simp only [mX3_hasPassage, at_i (show c < 36 by omega) (show 36 < 100000 by omega), bnd_s, jn_e, h.2.2.2.1 c hc]
  cases ho : opn (mC M) (mN M) (mO M) c d
  · rw [if_pos (by rw [bit_has hdd]; exact ho)]; rfl
  · rw [if_neg (by rw [bit_has hdd, ho]; exact Bool.noConfusion)]; rfl
theorem opn_pl {C N : Nat} {op : Op} (hv : vO C N op) (hk : k < 2 * N) : opn C N op (pA k) (pdr k) = op k := by
  unfold opn
  rw [pdr_num]
  cases ho : op k with
  | false => simp
  | true => rw [pl_nb (hv k ho)]; rfl
theorem isOpenPlace3 (h : R3 v M) (hd : dm M) (hv : vO (mC M) (mN M) (mO M)) (hk : k < 2 * mN M) : mX3_isOpenPlace v (jI (k : Nat)) = some (bI (mO M k)) := by
  have hN := dm_le hd
  simp only [mX3_isOpenPlace, lowEnd3 (show k < 72 by omega), plDir3 (show k < 72 by omega), bnd_s, hasP3 h hd (pA_lt hk) pdr_lt, opn_pl hv hk, gzb]
theorem nd_vld {C N : Nat} (h : vld C N k) : nd C N k = some (pB C k) := pl_nb h
theorem nd_nvld {C N : Nat} (hk : k < 2 * N) (h : ¬ vld C N k) : nd C N k = none := npl_nb hk h
end S3
