/-! COUNTS: passages, parts, ends, tones; the history of both sides -/
def sN (f : Nat → Nat) : Nat → Nat
  | 0 => 0
  | n + 1 => sN f n + f n
theorem sN_congr {f g : Nat → Nat} {n : Nat} (h : ∀ c, c < n → f c = g c) : sN f n = sN g n := by
  induction n with
  | zero => rfl
  | succ n ih => simp only [sN]; rw [ih (fun c hc => h c (by omega)), h n (by omega)]
theorem sN_le {f : Nat → Nat} {n b : Nat} (h : ∀ c, c < n → f c ≤ b) : sN f n ≤ b * n := by
  induction n with
  | zero => simp [sN]
  | succ n ih => simp only [sN]; have := ih (fun c hc => h c (by omega)); have := h n (by omega); rw [Nat.mul_succ]; omega
theorem sN_mono {f : Nat → Nat} {m n : Nat} (h : m ≤ n) : sN f m ≤ sN f n := by
  induction n with
  | zero => have : m = 0 := by omega
            subst this; exact Nat.le_refl _
  | succ n ih =>
    by_cases e : m = n + 1
    · subst e; exact Nat.le_refl _
    · simp only [sN]; have := ih (by omega); omega
theorem sN_one {a n : Nat} : sN (fun c => if c = a then 1 else 0) n = if a < n then 1 else 0 := by
  induction n with
  | zero => rfl
  | succ n ih =>
    simp only [sN, ih]
    by_cases e : n = a
    · subst e; simp
    · rw [if_neg e]
      by_cases q : a < n
      · rw [if_pos q, if_pos (by omega)]
      · rw [if_neg q, if_neg (by omega)]
theorem sN_add {f g : Nat → Nat} {n : Nat} : sN (fun c => f c + g c) n = sN f n + sN g n := by
  induction n with
  | zero => rfl
  | succ n ih => simp only [sN, ih]; omega
theorem sN_cast {f : Nat → Nat} {n : Nat} : sumN (fun c => (f c : Int)) n = (sN f n : Int) := by
  induction n with
  | zero => rfl
  | succ n ih => simp only [sN, sumN, ih]; omega
def popf (o : Nat → Bool) : Nat := b01 (o 0) + b01 (o 1) + b01 (o 2) + b01 (o 3)
theorem popf_set {o o' : Nat → Bool} {d : Nat} (hd : d < 4) (h : o d = true) (h' : ∀ d', d' < 4 → o' d' = if d' = d then false else o d') : popf o = popf o' + 1 := by
  unfold popf
  rw [h' 0 (by omega), h' 1 (by omega), h' 2 (by omega), h' 3 (by omega)]
  have : d = 0 ∨ d = 1 ∨ d = 2 ∨ d = 3 := by omega
  rcases this with rfl | rfl | rfl | rfl <;> simp [h, b01] <;> omega
theorem popf_same {o o' : Nat → Bool} (h' : ∀ d', d' < 4 → o' d' = o d') : popf o' = popf o := by
  unfold popf
  rw [h' 0 (by omega), h' 1 (by omega), h' 2 (by omega), h' 3 (by omega)]
theorem pop_sum {C R : Nat} (h1 : 2 ≤ C) (h2 : C ≤ 6) (h3 : 2 ≤ R) (h4 : R ≤ 6) : ∀ (m : Nat) (op : Op), vO C (C * R) op → cnt op (2 * (C * R)) = m → sN (fun c => popf (opn C (C * R) op c)) (C * R) = 2 * m := by
  intro m
  induction m with
  | zero =>
    intro op hv hc
    have hno : ∀ c d, opn C (C * R) op c d = false := by
      intro c d
      cases ho : opn C (C * R) op c d with
      | false => rfl
      | true =>
        obtain ⟨o, -, ho2⟩ := opn_t.mp ho
        have := cnt_0 hc _ (hv _ ho2).1
        rw [ho2] at this; cases this
    rw [sN_congr (g := fun _ => 0) (fun c _ => by simp [popf, hno, b01])]
    have : ∀ n, sN (fun _ => 0) n = 0 := by
      intro n
      induction n with
      | zero => rfl
      | succ n ih => simp only [sN, ih]
    rw [this]
  | succ m ih =>
    intro op hv hc
    obtain ⟨k, hk, ho⟩ := cnt_pos (op := op) (n := 2 * (C * R)) (by omega)
    have hkv := hv k ho
    have hcd := cnt_del (n := 2 * (C * R)) ho
    rw [if_pos hk] at hcd
    have hi := ih (setE op k false) (vO_set hv hkv) (by omega)
    have hA : pA k < C * R := pA_lt hk
    have hnb := pl_nb hkv
    have hp := nb_pl h1 h2 h3 h4 hA pdr_lt hnb
    have hne := nb_ne h1 hnb
    have hB := hp.2.2.1
    rw [sN_congr (g := fun c => (popf (opn C (C * R) (setE op k false) c) + (if c = pA k then 1 else 0)) + (if c = pB C k then 1 else 0)) (fun c hc' => ?_), sN_add, sN_add, hi, sN_one, sN_one, if_pos hA, if_pos hB]
    · omega
    · have hs : ∀ d', d' < 4 → opn C (C * R) (setE op k false) c d' = if (c = pA k ∧ d' = pdr k) ∨ (c = pB C k ∧ d' = opp (pdr k)) then false else opn C (C * R) op c d' := by
        intro d' hd'
        have := opn_set (op := op) (b := false) h1 h2 h3 h4 hA pdr_lt hnb hc' hd'
        rwa [pdr_num] at this
      by_cases e1 : c = pA k
      · subst e1
        rw [if_pos rfl, if_neg (Ne.symm hne)]
        rw [popf_set (o := opn C (C * R) op (pA k)) (o' := opn C (C * R) (setE op k false) (pA k)) pdr_lt (opn_t.mpr ⟨_, hnb, by rw [pdr_num]; exact ho⟩) (fun d' hd' => by
          rw [hs d' hd']
          by_cases q : d' = pdr k
          · rw [if_pos (Or.inl ⟨rfl, q⟩), if_pos q]
          · rw [if_neg q, if_neg]
            rintro (⟨-, z⟩ | ⟨z, -⟩)
            · exact q z
            · exact hne z.symm)]
      · by_cases e2 : c = pB C k
        · subst e2
          rw [if_pos rfl, if_neg hne]
          rw [popf_set (o := opn C (C * R) op (pB C k)) (o' := opn C (C * R) (setE op k false) (pB C k)) (d := opp (pdr k)) opp_lt (opn_t.mpr ⟨_, hp.2.2.2.1, by rw [hp.2.2.2.2, pdr_num]; exact ho⟩) (fun d' hd' => by
            rw [hs d' hd']
            by_cases q : d' = opp (pdr k)
            · rw [if_pos (Or.inr ⟨rfl, q⟩), if_pos q]
            · rw [if_neg q, if_neg]
              rintro (⟨z, -⟩ | ⟨-, z⟩)
              · exact hne z
              · exact q z)]
        · rw [if_neg e1, if_neg e2, popf_same (o := opn C (C * R) (setE op k false) c) (o' := opn C (C * R) op c) (fun d' hd' => by
            rw [hs d' hd', if_neg]
            rintro (⟨z, -⟩ | ⟨z, -⟩)
            · exact e1 z
            · exact e2 z)]
          rfl
theorem bits_cnt : ∀ a b c d : Bool, mJ6_bitCount_0f7a4 (jI ((b01 a + 2 * b01 b + 4 * b01 c + 8 * b01 d : Nat) : Int)) = some (jI ((b01 a + b01 b + b01 c + b01 d : Nat) : Int)) := by decide +kernel
theorem popf_le {o : Nat → Bool} : popf o ≤ 4 := by
  unfold popf b01
  split <;> split <;> split <;> split <;> omega
section CN
variable {v w : MZ} {s : nF} {M : Mz} {c d k F n : Nat}
theorem passageCount3 (hF : 36 < F) (h : R3 v M) (hd : dm M) (hv : vO (mC M) (mN M) (mO M)) : mX3_passageCount F v = some (jI (cnt (mO M) (2 * mN M) : Nat)) := by
  have hN := dm_le hd
  unfold mX3_passageCount
  have hb : ∀ i, i ≤ mN M → sN (fun c => popf (opn (mC M) (mN M) (mO M) c)) i ≤ 4 * 36 := by
    intro i hi
    have := sN_le (f := fun c => popf (opn (mC M) (mN M) (mO M) c)) (n := i) (b := 4) (fun c _ => popf_le)
    omega
  have := lpr_fn (L := mX3_passageCount_L4 v) (e := some (jI (cnt (mO M) (2 * mN M) : Nat))) (F := F) (fun i => (jI (sN (fun c => popf (opn (mC M) (mN M) (mO M) c)) i : Nat), jI (i : Nat))) (mN M) (by
    intro i hi self
    simp only [mX3_passageCount_L4, cells3 h, bnd_s]
    rw [nle_f hi (by omega), at_i (show i < 36 by omega) (by omega), bnd_s, h.2.2.2.1 i hi, mask_b, bits_cnt, bnd_s, jS]
    show self (jI (sN _ i : Nat) + jI (popf (opn (mC M) (mN M) (mO M) i) : Nat), _) = _
    rw [jnA]; rfl) (by
    intro self
    simp only [mX3_passageCount_L4, cells3 h, bnd_s]
    rw [nle_t (Nat.le_refl _) (by omega), gn2]
    have e : sN (fun c => popf (opn (mC M) (mN M) (mO M) c)) (mN M) = 2 * cnt (mO M) (2 * mN M) := pop_sum hd.1 hd.2.1 hd.2.2.1 hd.2.2.2 _ (mO M) hv rfl
    have := hb (mN M) (Nat.le_refl _)
    rw [e] at this
    rw [e, jl_2, ndiv (by omega) (by omega) (by omega)]
    congr 4
    omega) (by omega)
  rw [← this, jl_0]; rfl
theorem cnt_sN {op : Op} : ∀ n, sN (fun k => b01 (op k)) n = cnt op n := by
  intro n
  induction n with
  | zero => rfl
  | succ n ih => simp only [sN, cnt, ih]; rfl
theorem cnt_le2 {op : Op} : ∀ n, cnt op n ≤ n := by
  intro n
  induction n with
  | zero => exact Nat.le_refl _
  | succ n ih => simp only [cnt]; split <;> omega
theorem passages8 (hF : 72 < F) (h : R8 s M) (hd : dm M) : mX8_passages F s = some (jI (cnt (mO M) (2 * mN M) : Nat)) := by
  have hN := dm_le hd
  unfold mX8_passages
  have := lpr_fn (L := mX8_passages_L4 s) (e := some (jI (cnt (mO M) (2 * mN M) : Nat))) (F := F) (fun i => (jI (cnt (mO M) i : Nat), jI (i : Nat))) (2 * mN M) (by
    intro i hi self
    simp only [mX8_passages_L4, cells8 h, bnd_s, j2m]
    rw [nle_f hi (by omega), j42p, gdi (by omega) (by omega), jcl _ (by omega), h.2.2.2.2.2.2.2 i hi, jnA, jS]
    rfl) (by
    intro self
    simp only [mX8_passages_L4, cells8 h, bnd_s, j2m]
    rw [nle_t (Nat.le_refl _) (by omega)]) (by omega)
  rw [← this, jl_0]; rfl
def partI (M : Mz) : Int := (mN M : Int) - (cnt (mO M) (2 * mN M) : Int)
theorem parts3 (hF : 36 < F) (h : R3 v M) (hd : dm M) (hv : vO (mC M) (mN M) (mO M)) : mX3_parts F v = some (jI (partI M)) := by
  unfold mX3_parts
  rw [cells3 h, bnd_s, passageCount3 hF h hd hv, bnd_s, jI_sub]; rfl
theorem parts8 (hF : 72 < F) (h : R8 s M) (hd : dm M) : mX8_parts F s = some (jI (partI M)) := by
  unfold mX8_parts
  rw [cells8 h, bnd_s, passages8 hF h hd, bnd_s, jI_sub]; rfl
theorem part_b (hd : dm M) : -2147483648 ≤ partI M ∧ partI M < 2147483648 := by
  have hN := dm_le hd
  have := cnt_le2 (op := mO M) (2 * mN M)
  unfold partI
  omega
theorem isWhole3 (hF : 36 < F) (h : R3 v M) (hd : dm M) (hv : vO (mC M) (mN M) (mO M)) : mX3_isWhole F v = some (bI (decide (partI M = 1))) := by
  unfold mX3_isWhole
  rw [parts3 hF h hd hv, bnd_s]
  simp only [jn_e, j_1, j_0]
  by_cases e : partI M = 1
  · rw [jeq_t e, bI_p e]; rfl
  · rw [jeq_f (part_b hd) (by omega) e, bI_n e]; rfl
theorem isWhole8 (hF : 72 < F) (h : R8 s M) (hd : dm M) : mX8_isWhole F s = some (bI (decide (partI M = 1))) := by
  unfold mX8_isWhole
  rw [parts8 hF h hd, bnd_s]
  simp only [jn_e, j_1, j_0]
  by_cases e : partI M = 1
  · rw [jeq_t e, bI_p e]; rfl
  · rw [jeq_f (part_b hd) (by omega) e, bI_n e]; rfl
def toneS (M : Mz) : Nat := sN (mT M) (mN M)
theorem toneS_le (hd : dm M) (ht : ∀ c, c < mN M → mT M c ≤ 9) : toneS M ≤ 324 := by
  have hN := dm_le hd
  have := sN_le ht
  unfold toneS
  omega
theorem toneSum3 (hF : 36 < F) (h : R3 v M) (hd : dm M) : mX3_toneSum F v = some (jI (toneS M : Nat)) := by
  have hN := dm_le hd
  unfold mX3_toneSum
  have := lpr_fn (L := mX3_toneSum_L4 v) (e := some (jI (toneS M : Nat))) (F := F) (fun i => (jI (sN (mT M) i : Nat), jI (i : Nat))) (mN M) (by
    intro i hi self
    simp only [mX3_toneSum_L4, cells3 h, bnd_s]
    rw [nle_f hi (by omega), at_i (show i < 36 by omega) (by omega), bnd_s, h.2.2.1 i hi, jS, jnA]; rfl) (by
    intro self
    simp only [mX3_toneSum_L4, cells3 h, bnd_s]
    rw [nle_t (Nat.le_refl _) (by omega)]; rfl) (by omega)
  rw [← this, jl_0]; rfl
theorem tones8 (hF : 36 < F) (h : R8 s M) (hd : dm M) : mX8_tones F s = some (jI (toneS M : Nat)) := by
  have hN := dm_le hd
  unfold mX8_tones
  have := lpr_fn (L := mX8_tones_L4 s) (e := some (jI (toneS M : Nat))) (F := F) (fun i => (jI (sN (mT M) i : Nat), jI (i : Nat))) (mN M) (by
    intro i hi self
    simp only [mX8_tones_L4, cells8 h, bnd_s]
    rw [nle_f hi (by omega), j6p, gdi (by omega) (by omega), jcl _ (by omega), h.2.2.2.2.2.2.1 i hi, jS, jnA]; rfl) (by
    intro self
    simp only [mX8_tones_L4, cells8 h, bnd_s]
    rw [nle_t (Nat.le_refl _) (by omega)]; rfl) (by omega)
  rw [← this, jl_0]; rfl
def endN (M : Mz) : Nat := sN (fun c => if popf (opn (mC M) (mN M) (mO M) c) = 1 then 1 else 0) (mN M)
theorem deadEnds3 (hF : 36 < F) (h : R3 v M) (hd : dm M) : mX3_deadEnds F v = some (jI (endN M : Nat)) := by
  have hN := dm_le hd
  unfold mX3_deadEnds
  have := lpr_fn (L := mX3_deadEnds_L4 v) (e := some (jI (endN M : Nat))) (F := F) (fun i => (jI (sN (fun c => if popf (opn (mC M) (mN M) (mO M) c) = 1 then 1 else 0) i : Nat), jI (i : Nat))) (mN M) (by
    intro i hi self
    simp only [mX3_deadEnds_L4, cells3 h, bnd_s]
    rw [nle_f hi (by omega), at_i (show i < 36 by omega) (by omega), bnd_s, h.2.2.2.1 i hi, mask_b, bits_cnt, bnd_s, jS]
    simp only [jn_e]
    have hp := popf_le (o := opn (mC M) (mN M) (mO M) i)
    show (if jI (popf (opn (mC M) (mN M) (mO M) i) : Nat) = 1 then _ else _) = _
    by_cases e : popf (opn (mC M) (mN M) (mO M) i) = 1
    · rw [e, if_pos (by decide), jS]
      simp only [sN, e, if_true]
    · rw [if_neg (by rw [jl_1, neq (by omega) (by omega)]; exact e)]
      simp only [sN, if_neg e]; rfl) (by
    intro self
    simp only [mX3_deadEnds_L4, cells3 h, bnd_s]
    rw [nle_t (Nat.le_refl _) (by omega)]; rfl) (by omega)
  rw [← this, jl_0]; rfl
def pm (o : Nat → Bool) (i : Nat) : Nat := (if 0 < i then b01 (o 0) else 0) + 2 * (if 1 < i then b01 (o 1) else 0) + 4 * (if 2 < i then b01 (o 2) else 0) + 8 * (if 3 < i then b01 (o 3) else 0)
theorem bits_or : ∀ a b c d : Bool, ∀ i : Fin 4, jI (pm (fun j => if j = 0 then a else if j = 1 then b else if j = 2 then c else d) i.val : Nat) ||| (if (if i.val = 0 then a else if i.val = 1 then b else if i.val = 2 then c else d) = true then ((1 : Int32) <<< (jI (i.val : Nat) &&& 31)) else 0) = jI (pm (fun j => if j = 0 then a else if j = 1 then b else if j = 2 then c else d) (i.val + 1) : Nat) := by decide +kernel
theorem pm_or {o : Nat → Bool} (hdd : d < 4) : jI (pm o d : Nat) ||| (if o d = true then ((1 : Int32) <<< (jI (d : Nat) &&& 31)) else 0) = jI (pm o (d + 1) : Nat) := by
  have h := bits_or (o 0) (o 1) (o 2) (o 3) ⟨d, hdd⟩
  have e : (if d = 0 then o 0 else if d = 1 then o 1 else if d = 2 then o 2 else o 3) = o d := d4 (P := fun d => (if d = 0 then o 0 else if d = 1 then o 1 else if d = 2 then o 2 else o 3) = o d) hdd rfl rfl rfl rfl
  simp only [e] at h
  exact h
theorem directions8 (hF : 4 < F) (h : R8 s M) (hd : dm M) (hc : c < mN M) : mX8_directions F s (jI (c : Nat)) = some (jI (mask (mC M) (mN M) (mO M) c : Nat)) := by
  unfold mX8_directions
  have := lpr_fn (L := mX8_directions_L4 s (jI (c : Nat))) (e := some (jI (mask (mC M) (mN M) (mO M) c : Nat))) (F := F) (fun i => (jI (pm (opn (mC M) (mN M) (mO M) c) i : Nat), jI (i : Nat))) 4 (by
    intro i hi self
    simp only [mX8_directions_L4, jl_4]
    rw [nle_f hi (by omega), isOpen8 h hd hc hi, bnd_s]
    simp only [jn_e, jS]
    rw [← pm_or hi]
    cases ho : opn (mC M) (mN M) (mO M) c i
    · rw [if_pos (show bI false = 0 from rfl), if_neg Bool.noConfusion]
    · rw [if_neg bIt0, if_pos rfl]) (by
    intro self
    simp only [mX8_directions_L4, jl_4]
    rw [nle_t (Nat.le_refl _) (by omega), mask_b]; rfl) hF
  rw [← this, jl_0]; rfl
theorem bits_one : ∀ a b c d : Bool, (decide (jI ((b01 a + 2 * b01 b + 4 * b01 c + 8 * b01 d : Nat) : Int) = 1) || decide (jI ((b01 a + 2 * b01 b + 4 * b01 c + 8 * b01 d : Nat) : Int) = 2) || decide (jI ((b01 a + 2 * b01 b + 4 * b01 c + 8 * b01 d : Nat) : Int) = 4) || decide (jI ((b01 a + 2 * b01 b + 4 * b01 c + 8 * b01 d : Nat) : Int) = 8)) = decide (b01 a + b01 b + b01 c + b01 d = 1) := by decide +kernel
theorem ends8 (hF : 36 < F) (h : R8 s M) (hd : dm M) : mX8_ends F s = some (jI (endN M : Nat)) := by
  have hN := dm_le hd
  unfold mX8_ends
  have := lpr_fn (L := mX8_ends_L4 F s) (e := some (jI (endN M : Nat))) (F := F) (fun i => (jI (sN (fun c => if popf (opn (mC M) (mN M) (mO M) c) = 1 then 1 else 0) i : Nat), jI (i : Nat))) (mN M) (by
    intro i hi self
    simp only [mX8_ends_L4, cells8 h, bnd_s]
    rw [nle_f hi (by omega), directions8 (by omega) h hd hi, bnd_s, mask_b, jS]
    simp only [jn_e]
    have hb := bits_one (opn (mC M) (mN M) (mO M) i 0) (opn (mC M) (mN M) (mO M) i 1) (opn (mC M) (mN M) (mO M) i 2) (opn (mC M) (mN M) (mO M) i 3)
    have e : (b01 (opn (mC M) (mN M) (mO M) i 0) + b01 (opn (mC M) (mN M) (mO M) i 1) + b01 (opn (mC M) (mN M) (mO M) i 2) + b01 (opn (mC M) (mN M) (mO M) i 3)) = popf (opn (mC M) (mN M) (mO M) i) := rfl
    rw [e] at hb
    show _ = self (jI (sN _ i + (if popf (opn (mC M) (mN M) (mO M) i) = 1 then 1 else 0) : Nat), _)
    by_cases q : popf (opn (mC M) (mN M) (mO M) i) = 1
    · rw [decide_eq_true q] at hb
      simp only [Bool.or_eq_true, decide_eq_true_eq] at hb
      rw [if_pos q, ← jS (sN (fun c => if popf (opn (mC M) (mN M) (mO M) c) = 1 then 1 else 0) i)]
      split
      · rfl
      · split
        · rfl
        · split
          · rfl
          · split
            · rfl
            · exfalso
              rcases hb with ((hb | hb) | hb) | hb <;> contradiction
    · rw [decide_eq_false q] at hb
      simp only [Bool.or_eq_false_iff, decide_eq_false_iff_not] at hb
      rw [if_neg q, if_neg hb.1.1.1, if_neg hb.1.1.2, if_neg hb.1.2, if_neg hb.2, jl_0, jnA]) (by
    intro self
    simp only [mX8_ends_L4, cells8 h, bnd_s]
    rw [nle_t (Nat.le_refl _) (by omega)]; rfl) (by omega)
  rw [← this, jl_0]; rfl
end CN
