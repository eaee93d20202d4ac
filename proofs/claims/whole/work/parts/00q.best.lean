/-! FARTHEST CELLS AND THE BEST EXIT -/
def finn (f : Nat → Int) (c : Nat) : Nat → (Int × Int × Int) → (Int × Int × Int)
  | 0, t => t
  | j + 1, t => if f (c + 1 + j) ≤ (finn f c j t).2.2 then finn f c j t else ((c : Int), ((c + 1 + j : Nat) : Int), f (c + 1 + j))
def fout (N : Nat) (d : Nat → Nat → Int) : Nat → (Int × Int × Int)
  | 0 => (-1, -1, 0)
  | i + 1 => finn (d i) i (N - (i + 1)) (fout N d i)
theorem finn_b {f : Nat → Int} {c : Nat} {b : Int} {t : Int × Int × Int} (ht : 0 ≤ t.2.2 ∧ t.2.2 ≤ b) : ∀ j, (∀ k, k < c + 1 + j → f k ≤ b) → 0 ≤ (finn f c j t).2.2 ∧ (finn f c j t).2.2 ≤ b := by
  intro j
  induction j with
  | zero => intro _; exact ht
  | succ j ih =>
    intro h
    have h1 := ih (fun k hk => h k (by omega))
    have h2 := h (c + 1 + j) (by omega)
    simp only [finn]
    split
    · exact h1
    · show 0 ≤ f (c + 1 + j) ∧ f (c + 1 + j) ≤ b
      omega
theorem fout_b {N : Nat} {d : Nat → Nat → Int} {b : Int} (hb : 0 ≤ b) (h : ∀ i k, i < N → k < N → d i k ≤ b) : ∀ i, i ≤ N → 0 ≤ (fout N d i).2.2 ∧ (fout N d i).2.2 ≤ b := by
  intro i
  induction i with
  | zero => intro _; exact ⟨Int.le_refl 0, hb⟩
  | succ i ih =>
    intro hi
    exact finn_b (ih (by omega)) _ (fun k hk => h i k (by omega) (by omega))
section FB
variable {v : MZ} {w : WY} {s : nF} {M : Mz} {c d F n i r x : Nat} {a b : Int}
theorem choose3 {p q z : Int32} (ha : -2147483648 ≤ a ∧ a < 2147483648) : mX7_choose (jI a) p q z = some (if a = 0 then p else if a = 1 then q else z) := by
  unfold mX7_choose
  simp only [jn_e]
  by_cases h : a = 0
  · rw [j_0, jeq_t h, if_pos h]
  · rw [j_0, jeq_f ha (by omega) h, if_neg h]
    by_cases h1 : a = 1
    · rw [j_1, jeq_t h1, if_pos h1]
    · rw [j_1, jeq_f ha (by omega) h1, if_neg h1]
noncomputable def dM (M : Mz) : Nat → Nat → Int := fun i k => dst (mC M) (mO M) i k
noncomputable def farT (M : Mz) : Int × Int × Int := fout (mN M) (dM M) (mN M)
noncomputable def farA (M : Mz) (a : Int) : Int := if 0 ≤ a ∧ a ≤ 2 then (if (farT M).2.2 = 0 then -4 else if a = 0 then (farT M).1 else if a = 1 then (farT M).2.1 else (farT M).2.2) else -1
theorem dM_b (hw : WF2 M) : ∀ i k, i < mN M → k < mN M → dM M i k ≤ 36 := by
  intro i k hi hk
  have hN := dm_le hw.1
  have := dst_lt hw hi hk
  show dst (mC M) (mO M) i k ≤ 36
  omega
theorem far_in3 (hF : 36 < F) (h : R3 v M) (hw : WF2 M) (hi : i < mN M) (hq : WQ M i w) {t : Int × Int × Int} (ht : 0 ≤ t.2.2 ∧ t.2.2 ≤ 36) {x8 : Int32 × Int32 × Int32 × Int32 × WY} (hx : x8.2.2.2.1 = jI (i : Nat)) (j13 : (Int32 × Int32 × Int32) → Option (Int32 × WY)) :
    lpr (mX7_farthest_L52 v x8 w j13) F (jI t.1, jI t.2.1, jI t.2.2, jI (i : Nat) + (1 : Int32)) = j13 (jI (finn (dM M i) i (mN M - (i + 1)) t).1, jI (finn (dM M i) i (mN M - (i + 1)) t).2.1, jI (finn (dM M i) i (mN M - (i + 1)) t).2.2) := by
  have hN := dm_le hw.1
  have := lpr_fn (L := mX7_farthest_L52 v x8 w j13) (e := j13 (jI (finn (dM M i) i (mN M - (i + 1)) t).1, jI (finn (dM M i) i (mN M - (i + 1)) t).2.1, jI (finn (dM M i) i (mN M - (i + 1)) t).2.2)) (F := F) (fun j => (jI (finn (dM M i) i j t).1, jI (finn (dM M i) i j t).2.1, jI (finn (dM M i) i j t).2.2, jI ((i + 1 + j : Nat) : Int))) (mN M - (i + 1)) (by
    intro j hj self
    have hk : i + 1 + j < mN M := by omega
    have hb1 := finn_b (f := dM M i) (c := i) ht j (fun k hk => dM_b hw i k hi (by omega))
    have hb2 := dst_b hw hi hk
    have hdl := dst_lt hw hi hk
    simp only [mX7_farthest_L52, cells3 h, bnd_s]
    rw [nle_f hk (by omega), wq_len hw hi hk hq, bnd_s]
    simp only [jn_e, bnd_s, jS]
    by_cases e : dst (mC M) (mO M) i (i + 1 + j) ≤ (finn (dM M i) i j t).2.2
    · rw [jle_t hb2 (by omega) e]
      have e2 : finn (dM M i) i (j + 1) t = finn (dM M i) i j t := by
        simp only [finn]
        exact if_pos e
      rw [e2]; rfl
    · rw [jle_f hb2 (by omega) (by omega)]
      have e2 : finn (dM M i) i (j + 1) t = ((i : Int), ((i + 1 + j : Nat) : Int), dst (mC M) (mO M) i (i + 1 + j)) := by
        simp only [finn]
        exact if_neg e
      rw [e2, hx]; rfl) (by
    intro self
    simp only [mX7_farthest_L52, cells3 h, bnd_s]
    rw [nle_t (by omega) (by omega)]) (by omega)
  rw [← this, jS]; rfl
theorem farthest3 (hF : 36 < F) (h : R3 v M) (hw : WF2 M) (ha : -2147483648 ≤ a ∧ a < 2147483648) : ∃ z, mX7_farthest F v w (jI a) = some (jI (farA M a), z) := by
  have hN := dm_le hw.1
  unfold mX7_farthest farA
  simp only [jn_e]
  by_cases h0 : a < 0
  · rw [j_0, jlt_t ha (by omega) h0, if_neg (by omega)]; exact ⟨_, rfl⟩
  · rw [j_0, jlt_f ha (by omega) (by omega), j_2]
    by_cases h2 : a ≤ 2
    · rw [jle_t ha (by omega) h2, if_pos (by omega)]
      have key := lpr_r (Q := fun z : Int32 × WY => ∃ y, mX7_farthest_K107 (jI a) (jI (farT M).1, jI (farT M).2.1, jI (farT M).2.2, y) = some z) (L := mX7_farthest_L21 F v (mX7_farthest_K107 (jI a))) (F := F) (fun i y => y.1 = jI (fout (mN M) (dM M) i).1 ∧ y.2.1 = jI (fout (mN M) (dM M) i).2.1 ∧ y.2.2.1 = jI (fout (mN M) (dM M) i).2.2 ∧ y.2.2.2.1 = jI (i : Nat)) (mN M) (x := ((-1 : Int32), (-1 : Int32), jI 0, jI 0, w)) (by
        intro i y hi ⟨y1, y2, y3, y4⟩
        by_cases e : i = mN M
        · left
          have hb := fout_b (N := mN M) (b := 36) (by omega) (dM_b hw) (mN M) (by omega)
          obtain ⟨z, hz⟩ : ∃ z, mX7_farthest_K107 (jI a) (jI (farT M).1, jI (farT M).2.1, jI (farT M).2.2, y.2.2.2.2) = some z := by
            simp only [mX7_farthest_K107, jn_e]
            split
            · exact ⟨_, rfl⟩
            · rw [choose3 ha, bnd_s]; exact ⟨_, rfl⟩
          refine ⟨z, ⟨_, hz⟩, fun self => ?_⟩
          simp only [mX7_farthest_L21, cells3 h, bnd_s, y4]
          rw [nle_t (by omega) (by omega), y1, y2, y3, e]
          exact hz
        · right
          have hi2 : i < mN M := by omega
          have hb := fout_b (N := mN M) (b := 36) (by omega) (dM_b hw) i (by omega)
          obtain ⟨w', q1, q2⟩ := findFrom3 (w := y.2.2.2.2) hF h hw hi2
          refine ⟨hi2, (jI (fout (mN M) (dM M) (i + 1)).1, jI (fout (mN M) (dM M) (i + 1)).2.1, jI (fout (mN M) (dM M) (i + 1)).2.2, jI ((i + 1 : Nat) : Int), w'), ⟨rfl, rfl, rfl, rfl⟩, fun self => ?_⟩
          simp only [mX7_farthest_L21, cells3 h, bnd_s, y4]
          rw [nle_f hi2 (by omega), q1, bnd_s]
          simp only [jn_e]
          rw [y1, y2, y3, far_in3 hF h hw hi2 q2 hb y4]
          simp only [mX7_farthest_K101, y4, jS]
          rfl) ⟨j_m1, j_m1, rfl, rfl⟩ (by omega)
      obtain ⟨z, ⟨y, hy⟩, hz⟩ := key
      rw [hz]
      have hb := fout_b (N := mN M) (b := 36) (by omega) (dM_b hw) (mN M) (by omega)
      have hb' : 0 ≤ (farT M).2.2 ∧ (farT M).2.2 ≤ 36 := hb
      simp only [mX7_farthest_K107, jn_e] at hy
      by_cases e : (farT M).2.2 = 0
      · rw [j_0, jeq_t e] at hy
        rw [if_pos e, ← hy]
        exact ⟨_, rfl⟩
      · rw [j_0, jeq_f (by omega) (by omega) e, choose3 ha, bnd_s] at hy
        rw [if_neg e, ← hy]
        refine ⟨y, ?_⟩
        by_cases q : a = 0
        · rw [if_pos q, if_pos q]
        · rw [if_neg q, if_neg q]
          by_cases q1 : a = 1
          · rw [if_pos q1, if_pos q1]
          · rw [if_neg q1, if_neg q1]
    · rw [jle_f ha (by omega) (by omega), if_neg (by omega)]; exact ⟨_, rfl⟩
theorem far_in8 (hF : 36 < F) (h : R8 s M) (hw : WF2 M) (hi : i < mN M) {fq : nF × nF} (hq : ∀ c, c < mN M → fq.1 c = jI (dst (mC M) (mO M) i c)) {t : Int × Int × Int} (ht : 0 ≤ t.2.2 ∧ t.2.2 ≤ 36) {x6 : Int32 × Int32 × Int32 × Int32 × nF × nF} (hx : x6.2.2.2.1 = jI (i : Nat)) (j11 : (Int32 × Int32 × Int32) → Option (Int32 × nF × nF)) :
    lpr (mX8_farthest_L42 s x6 fq j11) F (jI t.1, jI t.2.1, jI t.2.2, jI (i : Nat) + (1 : Int32)) = j11 (jI (finn (dM M i) i (mN M - (i + 1)) t).1, jI (finn (dM M i) i (mN M - (i + 1)) t).2.1, jI (finn (dM M i) i (mN M - (i + 1)) t).2.2) := by
  have hN := dm_le hw.1
  have := lpr_fn (L := mX8_farthest_L42 s x6 fq j11) (e := j11 (jI (finn (dM M i) i (mN M - (i + 1)) t).1, jI (finn (dM M i) i (mN M - (i + 1)) t).2.1, jI (finn (dM M i) i (mN M - (i + 1)) t).2.2)) (F := F) (fun j => (jI (finn (dM M i) i j t).1, jI (finn (dM M i) i j t).2.1, jI (finn (dM M i) i j t).2.2, jI ((i + 1 + j : Nat) : Int))) (mN M - (i + 1)) (by
    intro j hj self
    have hk : i + 1 + j < mN M := by omega
    have hb1 := finn_b (f := dM M i) (c := i) ht j (fun k hk => dM_b hw i k hi (by omega))
    have hb2 := dst_b hw hi hk
    have hdl := dst_lt hw hi hk
    simp only [mX8_farthest_L42, cells8 h, bnd_s]
    rw [nle_f hk (by omega), gdi (by omega) (by omega)]
    simp only [jn_e, jcl (i + 1 + j) (by omega), hq _ hk, gdi (show i + 1 + j < 36 by omega) (show 36 < 100000 by omega), jS]
    by_cases e : dst (mC M) (mO M) i (i + 1 + j) ≤ (finn (dM M i) i j t).2.2
    · rw [jle_t hb2 (by omega) e]
      have e2 : finn (dM M i) i (j + 1) t = finn (dM M i) i j t := by
        simp only [finn]
        exact if_pos e
      rw [e2]; rfl
    · rw [jle_f hb2 (by omega) (by omega)]
      have e2 : finn (dM M i) i (j + 1) t = ((i : Int), ((i + 1 + j : Nat) : Int), dst (mC M) (mO M) i (i + 1 + j)) := by
        simp only [finn]
        exact if_neg e
      rw [e2, hx]; rfl) (by
    intro self
    simp only [mX8_farthest_L42, cells8 h, bnd_s]
    rw [nle_t (by omega) (by omega)]) (by omega)
  rw [← this, jS]; rfl
theorem far_K8 {y1 y2 : nF} (ha : -2147483648 ≤ a ∧ a < 2147483648) (hw : WF2 M) : mX8_farthest_K90 (jI a) (jI (farT M).1, jI (farT M).2.1, jI (farT M).2.2, y1, y2) = some (jI (if (farT M).2.2 = 0 then -4 else if a = 0 then (farT M).1 else if a = 1 then (farT M).2.1 else (farT M).2.2), y1, y2) := by
  have hN := dm_le hw.1
  have hb' : 0 ≤ (farT M).2.2 ∧ (farT M).2.2 ≤ 36 := fout_b (N := mN M) (b := 36) (by omega) (dM_b hw) (mN M) (by omega)
  simp only [mX8_farthest_K90, jn_e]
  by_cases e : (farT M).2.2 = 0
  · rw [j_0, jeq_t e, if_pos e]; rfl
  · rw [j_0, jeq_f (by omega) (by omega) e, if_neg e]
    by_cases q : a = 0
    · rw [jeq_t q, if_pos q]
    · rw [jeq_f ha (by omega) q, if_neg q]
      by_cases q1 : a = 1
      · rw [j_1, jeq_t q1, if_pos q1]
      · rw [j_1, jeq_f ha (by omega) q1, if_neg q1]
theorem farthest8 {f0 q0 : nF} (hF : 36 < F) (h : R8 s M) (hw : WF2 M) (ha : -2147483648 ≤ a ∧ a < 2147483648) : ∃ z, mX8_farthest F s f0 q0 (jI a) = some (jI (farA M a), z) := by
  have hN := dm_le hw.1
  unfold mX8_farthest farA
  rw [j_0, j_2, in8 ha (by omega) (by omega), bnd_s, ← j_0, ifb]
  simp only [jn_e]
  by_cases h0 : 0 ≤ a ∧ a ≤ 2
  · rw [if_pos (decide_eq_true h0), if_pos h0]
    have key := lpr_r (Q := fun z : Int32 × nF × nF => z.1 = jI (if (farT M).2.2 = 0 then -4 else if a = 0 then (farT M).1 else if a = 1 then (farT M).2.1 else (farT M).2.2)) (L := mX8_farthest_L21 F s (mX8_farthest_K90 (jI a))) (F := F) (fun i y => y.1 = jI (fout (mN M) (dM M) i).1 ∧ y.2.1 = jI (fout (mN M) (dM M) i).2.1 ∧ y.2.2.1 = jI (fout (mN M) (dM M) i).2.2 ∧ y.2.2.2.1 = jI (i : Nat)) (mN M) (x := ((-1 : Int32), (-1 : Int32), (0 : Int32), (0 : Int32), f0, q0)) (by
      intro i y hi ⟨y1, y2, y3, y4⟩
      by_cases e : i = mN M
      · left
        refine ⟨(jI (if (farT M).2.2 = 0 then -4 else if a = 0 then (farT M).1 else if a = 1 then (farT M).2.1 else (farT M).2.2), y.2.2.2.2.1, y.2.2.2.2.2), rfl, fun self => ?_⟩
        · simp only [mX8_farthest_L21, cells8 h, bnd_s, y4]
          rw [nle_t (by omega) (by omega), y1, y2, y3, e]
          exact far_K8 ha hw
      · right
        have hi2 : i < mN M := by omega
        have hb := fout_b (N := mN M) (b := 36) (by omega) (dM_b hw) i (by omega)
        obtain ⟨fq, q1, q2⟩ := measures8 (f0 := y.2.2.2.2.1) (q0 := y.2.2.2.2.2) hF h hw hi2
        refine ⟨hi2, (jI (fout (mN M) (dM M) (i + 1)).1, jI (fout (mN M) (dM M) (i + 1)).2.1, jI (fout (mN M) (dM M) (i + 1)).2.2, jI ((i + 1 : Nat) : Int), fq.1, fq.2), ⟨rfl, rfl, rfl, rfl⟩, fun self => ?_⟩
        simp only [mX8_farthest_L21, cells8 h, bnd_s, y4]
        rw [nle_f hi2 (by omega), q1, bnd_s]
        simp only [jn_e]
        rw [y1, y2, y3, far_in8 hF h hw hi2 q2 hb y4]
        simp only [mX8_farthest_K84, y4, jS]
        rfl) ⟨j_m1, j_m1, j_0, j_0⟩ (by omega)
    obtain ⟨z, z1, z2⟩ := key
    rw [z2, ← z1]
    exact ⟨_, rfl⟩
  · rw [if_neg (by rw [decide_eq_false h0]; exact Bool.noConfusion), if_neg h0]
    exact ⟨_, rfl⟩
end FB
