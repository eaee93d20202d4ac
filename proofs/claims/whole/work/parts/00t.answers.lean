/-! ANSWERS of what there is: walk, drawn, cellOf, doorOf, count -/
theorem j3m (k : Nat) : (3 : Int32) * jI (k : Int) = jI ((3 * k : Nat) : Int) := by rw [j_3, jI_mul]; rfl
theorem jnS {a b : Nat} (h : b ≤ a) : jI (a : Int) - jI (b : Int) = jI ((a - b : Nat) : Int) := by rw [jI_sub]; congr 1; omega
/-- how dark a cell is drawn by the walk, and how far that is from its tone -/
def wdk (M : Mz) (c : Nat) : Nat := if 9 < 3 * (wres M).2 c then 9 else 3 * (wres M).2 c
def wft (M : Mz) (c : Nat) : Nat := if wdk M c ≤ mT M c then mT M c - wdk M c else wdk M c - mT M c
theorem wft_le {M : Mz} {c : Nat} (h : mT M c ≤ 9) : wft M c ≤ 9 := by
  unfold wft wdk
  split <;> split <;> omega
section AN
variable {v : MZ} {w w1 w2 w3 : WY} {wk : WK} {s : nF} {M : Mz} {c d F n i r x l : Nat} {a b : Int}
theorem faultOn3 (hF : 144 < F) (h : R3 v M) (hw : WF M) {z : WK} (hz : ∀ c, c < mN M → z.2.2.1 c = jI ((wres M).2 c : Nat)) (hzb : ∀ c, (wres M).2 c ≤ 145) : mX5_faultOn F z v = some (jI (sN (wft M) (mN M) : Nat)) := by
  have hN := dm_le hw.1
  unfold mX5_faultOn
  have := lpr_fn (L := mX5_faultOn_L4 z v) (e := some (jI (sN (wft M) (mN M) : Nat))) (F := F) (fun i => (jI (sN (wft M) i : Nat), jI (i : Nat))) (mN M) (by
    intro i hi self
    have hb := hzb i
    have ht := hw.2.1 i hi
    simp only [mX5_faultOn_L4, cells3 h, bnd_s]
    rw [nle_f hi (by omega), at_i (by omega) (by omega), bnd_s, at_i (by omega) (by omega), bnd_s, hz i hi, h.2.2.1 i hi, jS]
    have e1 : (if (9 : Int32) < (3 : Int32) * jI ((wres M).2 i : Nat) then (9 : Int32) else (3 : Int32) * jI ((wres M).2 i : Nat)) = jI (wdk M i : Nat) := by
      rw [j3m, jl_9]
      unfold wdk
      by_cases q : 9 < 3 * (wres M).2 i
      · rw [nlt_t q (by omega), if_pos q]
      · rw [nlt_f (by omega) (by omega), if_neg q]
    have hk : wdk M i ≤ 9 := by unfold wdk; split <;> omega
    rw [e1]
    have e2 : (if (0 : Int32) ≤ jI (mT M i : Nat) - jI (wdk M i : Nat) then jI (mT M i : Nat) - jI (wdk M i : Nat) else 0 - (jI (mT M i : Nat) - jI (wdk M i : Nat))) = jI (wft M i : Nat) := by
      unfold wft
      by_cases q : wdk M i ≤ mT M i
      · rw [if_pos q, jnS q, if_pos (by rw [n0l (by omega)]; trivial)]
      · rw [if_neg q, jI_sub, j_0, jle_f (by omega) (by omega) (by omega), jI_sub]
        congr 1; omega
    rw [e2, jnA]; rfl) (by
    intro self
    simp only [mX5_faultOn_L4, cells3 h, bnd_s]
    rw [nle_t (Nat.le_refl _) (by omega)]) (by omega)
  rw [← this, jl_0]; rfl
theorem walkCells8 {vi : nF} (hF : 36 < F) (h : R8 s M) (hd : dm M) (hz : ∀ c, c < mN M → vi c = jI ((wres M).2 c : Nat)) : mX8_walkCells F s vi = some (jI (sN (wres M).2 (mN M) : Nat)) := by
  have hN := dm_le hd
  unfold mX8_walkCells
  have := lpr_fn (L := mX8_walkCells_L4 s vi) (e := some (jI (sN (wres M).2 (mN M) : Nat))) (F := F) (fun i => (jI (sN (wres M).2 i : Nat), jI (i : Nat))) (mN M) (by
    intro i hi self
    simp only [mX8_walkCells_L4, cells8 h, bnd_s]
    rw [nle_f hi (by omega), gdi (by omega) (by omega), jcl _ (by omega), hz i hi, jS, jnA]; rfl) (by
    intro self
    simp only [mX8_walkCells_L4, cells8 h, bnd_s]
    rw [nle_t (Nat.le_refl _) (by omega)]) (by omega)
  rw [← this, jl_0]; rfl
theorem walkFault8 {vi : nF} (hF : 36 < F) (h : R8 s M) (hw : WF M) (hz : ∀ c, c < mN M → vi c = jI ((wres M).2 c : Nat)) (hzb : ∀ c, (wres M).2 c ≤ 145) : mX8_walkFault F s vi = some (jI (sN (wft M) (mN M) : Nat)) := by
  have hN := dm_le hw.1
  unfold mX8_walkFault
  have := lpr_fn (L := mX8_walkFault_L4 s vi) (e := some (jI (sN (wft M) (mN M) : Nat))) (F := F) (fun i => (jI (sN (wft M) i : Nat), jI (i : Nat))) (mN M) (by
    intro i hi self
    have hb := hzb i
    have ht := hw.2.1 i hi
    have hk : wdk M i ≤ 9 := by unfold wdk; split <;> omega
    simp only [mX8_walkFault_L4, cells8 h, bnd_s, jn_e]
    rw [nle_f hi (by omega), gdi (by omega) (by omega), jcl _ (by omega), hz i hi, j3m, j6p, jcl _ (by omega), h.2.2.2.2.2.2.1 i hi, jS]
    simp only [gdi (show 6 + i < 114 by omega) (show 114 < 100000 by omega), gdi (show i < 36 by omega) (show 36 < 100000 by omega)]
    have hfin : ∀ x4 : Int32, x4 = jI (wdk M i : Nat) → (if x4 ≤ jI (mT M i : Nat) then self (jI (sN (wft M) i : Nat) + (jI (mT M i : Nat) - x4), jI ((i + 1 : Nat) : Int)) else self (jI (sN (wft M) i : Nat) + (x4 - jI (mT M i : Nat)), jI ((i + 1 : Nat) : Int))) = self (jI (sN (wft M) (i + 1) : Nat), jI ((i + 1 : Nat) : Int)) := by
      intro x4 hx
      subst hx
      have hS : sN (wft M) (i + 1) = sN (wft M) i + wft M i := rfl
      rw [hS]
      unfold wft
      by_cases q : wdk M i ≤ mT M i
      · rw [nle_t q (by omega), if_pos q, jnS q, jnA]
      · rw [nle_f (by omega) (by omega), if_neg q, jnS (by omega), jnA]
    rw [jl_9]
    by_cases q : 9 < 3 * (wres M).2 i
    · rw [nle_f q (by omega)]
      exact hfin _ (by unfold wdk; rw [if_pos q])
    · rw [nle_t (by omega) (by omega)]
      exact hfin _ (by unfold wdk; rw [if_neg q])) (by
    intro self
    simp only [mX8_walkFault_L4, cells8 h, bnd_s]
    rw [nle_t (Nat.le_refl _) (by omega)]) (by omega)
  rw [← this, jl_0]; rfl
theorem jne {k : Int} (ha : -2147483648 ≤ a ∧ a < 2147483648) (hk : -2147483648 ≤ k ∧ k < 2147483648) (h : a ≠ k) : ¬ (jI a = jI k) := by rw [jeq ha hk]; exact h
/-- what drawn answers -/
noncomputable def drawnA (M : Mz) (a : Int) : Int := if a = 0 then (if dst (mC M) (mO M) (mX M) (mE M) < 0 then -4 else dst (mC M) (mO M) (mX M) (mE M) + 1) else if a = 1 then faultI M (mX M) else if a = 2 then (if (wres M).1 = true then (sN (wres M).2 (mN M) : Int) else -4) else if a = 3 then (if (wres M).1 = true then (sN (wft M) (mN M) : Int) else -4) else if a = 4 then (if dst (mC M) (mO M) (mX M) (mE M) < 0 then -4 else (turnsOf (wy (mC M) (mO M) (mX M) (mE M)) : Int)) else -1
theorem drawn3 (hF : 145 < F) (h : R3 v M) (hw : WF M) (ha : -2147483648 ≤ a ∧ a < 2147483648) : ∃ z, mX7_drawn F v w wk (jI a) = some (jI (drawnA M a), z) := by
  have hw2 := hw.w2
  have hN := dm_le hw.1
  have hE : mE M < mN M := hw.2.2.2.2.1.1
  have hX : mX M < mN M := hw.2.2.2.2.2.1.1
  obtain ⟨w', q1, q2⟩ := hasWay3 (w := w) (F := F) (by omega) h hw2 hX hE
  obtain ⟨w'', q3⟩ := wayFault3 (w := w) (F := F) (by omega) h hw2 hX hE
  obtain ⟨z, z1, z2, z3, z4, z5⟩ := take3 (wk := wk) (F := F) (by omega) h hw
  unfold mX7_drawn
  have hk : a = 0 ∨ a = 1 ∨ a = 2 ∨ a = 3 ∨ a = 4 ∨ (a ≠ 0 ∧ a ≠ 1 ∧ a ≠ 2 ∧ a ≠ 3 ∧ a ≠ 4) := by omega
  rcases hk with rfl | rfl | rfl | rfl | rfl | ⟨n0, n1, n2, n3, n4⟩
  · rw [if_pos (show jI 0 = (0 : Int32) by decide)]
    rw [q1, bnd_s]
    simp only [jn_e, ifb]
    by_cases e : 0 ≤ dst (mC M) (mO M) (mX M) (mE M)
    · rw [if_pos (decide_eq_true e)]
      rw [entry3 h, bnd_s, wq_len hw2 hX hE q2, bnd_s, j_1, jI_add]
      refine ⟨(w', wk), ?_⟩
      unfold drawnA
      rw [if_pos rfl, if_neg (by omega)]
    · rw [if_neg (by rw [decide_eq_false e]; exact Bool.noConfusion)]
      refine ⟨(w', wk), ?_⟩
      unfold drawnA
      rw [if_pos rfl, if_pos (by omega)]
      rfl
  · rw [if_neg (show ¬ (jI 1 = (0 : Int32)) by decide), if_pos (show jI 1 = (1 : Int32) by decide)]
    rw [q3, bnd_s]
    exact ⟨_, rfl⟩
  · rw [if_neg (show ¬ (jI 2 = (0 : Int32)) by decide), if_neg (show ¬ (jI 2 = (1 : Int32)) by decide), if_pos (show jI 2 = (2 : Int32) by decide)]
    rw [z1, bnd_s]
    simp only [jn_e, z2, ifb]
    unfold drawnA
    rw [if_neg (show ¬ ((2 : Int) = 0) by omega), if_neg (show ¬ ((2 : Int) = 1) by omega), if_pos (show (2 : Int) = 2 from rfl)]
    cases hr : (wres M).1
    · exact ⟨_, rfl⟩
    · simp only [Bool.not_true, if_neg (show ¬ (false = true) from Bool.noConfusion), if_true]
      rw [z3]
      exact ⟨_, rfl⟩
  · rw [if_neg (show ¬ (jI 3 = (0 : Int32)) by decide), if_neg (show ¬ (jI 3 = (1 : Int32)) by decide), if_neg (show ¬ (jI 3 = (2 : Int32)) by decide), if_pos (show jI 3 = (3 : Int32) by decide)]
    rw [z1, bnd_s]
    simp only [jn_e, z2, ifb]
    unfold drawnA
    rw [if_neg (show ¬ ((3 : Int) = 0) by omega), if_neg (show ¬ ((3 : Int) = 1) by omega), if_neg (show ¬ ((3 : Int) = 2) by omega), if_pos (show (3 : Int) = 3 from rfl)]
    cases hr : (wres M).1
    · exact ⟨_, rfl⟩
    · simp only [Bool.not_true, if_neg (show ¬ (false = true) from Bool.noConfusion), if_true]
      rw [faultOn3 (by omega) h hw z4 z5, bnd_s]
      exact ⟨_, rfl⟩
  · rw [if_neg (show ¬ (jI 4 = (0 : Int32)) by decide), if_neg (show ¬ (jI 4 = (1 : Int32)) by decide), if_neg (show ¬ (jI 4 = (2 : Int32)) by decide), if_neg (show ¬ (jI 4 = (3 : Int32)) by decide), if_pos (show jI 4 = (4 : Int32) by decide)]
    rw [q1, bnd_s]
    simp only [jn_e, ifb]
    by_cases e : 0 ≤ dst (mC M) (mO M) (mX M) (mE M)
    · rw [if_pos (decide_eq_true e)]
      rw [wayTurns3 (by omega) h hw2 hX hE q2 (dst_c.mp e), bnd_s]
      refine ⟨(w', wk), ?_⟩
      unfold drawnA
      rw [if_neg (by omega), if_neg (by omega), if_neg (by omega), if_neg (by omega), if_pos rfl, if_neg (by omega)]
    · rw [if_neg (by rw [decide_eq_false e]; exact Bool.noConfusion)]
      refine ⟨(w', wk), ?_⟩
      unfold drawnA
      rw [if_neg (by omega), if_neg (by omega), if_neg (by omega), if_neg (by omega), if_pos rfl, if_pos (by omega)]
      rfl
  · rw [j_0, if_neg (jne ha (by omega) n0), j_1, if_neg (jne ha (by omega) n1), j_2, if_neg (jne ha (by omega) n2), j_3, if_neg (jne ha (by omega) n3), j_4, if_neg (jne ha (by omega) n4)]
    unfold drawnA
    rw [if_neg n0, if_neg n1, if_neg n2, if_neg n3, if_neg n4]
    exact ⟨_, rfl⟩
theorem drawn8 {f0 q0 o0 st0 vi ws : nF} {wc tu : Int32} (hF : 145 < F) (h : R8 s M) (hw : WF M) (hzb : ∀ c, (wres M).2 c ≤ 145) (ha : -2147483648 ≤ a ∧ a < 2147483648) : ∃ z, mX8_drawn F s f0 q0 o0 st0 wc tu vi ws (jI a) = some (jI (drawnA M a), z) := by
  have hw2 := hw.w2
  have hN := dm_le hw.1
  have hE : mE M < mN M := hw.2.2.2.2.1.1
  have hX : mX M < mN M := hw.2.2.2.2.2.1.1
  obtain ⟨y, y1, y2, y3, y4, y5, y6⟩ := findsWay8 (f0 := f0) (q0 := q0) (o0 := o0) (st0 := st0) (wc := wc) (tu := tu) (F := F) (by omega) h hw2 hX hE
  obtain ⟨u, u1, u2⟩ := wayFault8 (f0 := f0) (q0 := q0) (o0 := o0) (st0 := st0) (wc := wc) (tu := tu) (F := F) (by omega) h hw2 hX hE
  obtain ⟨z, z1, z2, z3⟩ := walks8 (vi := vi) (ws := ws) (F := F) (by omega) h hw
  have hdl : ((wy (mC M) (mO M) (mX M) (mE M)).length : Int) = dst (mC M) (mO M) (mX M) (mE M) + 1 := by unfold dst; omega
  unfold mX8_drawn
  have hk : a = 0 ∨ a = 1 ∨ a = 2 ∨ a = 3 ∨ a = 4 ∨ (a ≠ 0 ∧ a ≠ 1 ∧ a ≠ 2 ∧ a ≠ 3 ∧ a ≠ 4) := by omega
  rcases hk with rfl | rfl | rfl | rfl | rfl | ⟨n0, n1, n2, n3, n4⟩
  · rw [if_pos (show jI 0 = (0 : Int32) by decide)]
    rw [gl4, cl4, h.2.2.2.2.1, y1, bnd_s]
    simp only [jn_e, y2, ifb]
    have eA : drawnA M 0 = if dst (mC M) (mO M) (mX M) (mE M) < 0 then -4 else dst (mC M) (mO M) (mX M) (mE M) + 1 := rfl
    rw [eA]
    by_cases e : 0 ≤ dst (mC M) (mO M) (mX M) (mE M)
    · rw [if_pos (decide_eq_true e), if_neg (show ¬ dst (mC M) (mO M) (mX M) (mE M) < 0 by omega), y5, hdl]
      exact ⟨_, rfl⟩
    · rw [if_neg (show ¬ (decide (0 ≤ dst (mC M) (mO M) (mX M) (mE M)) = true) by rw [decide_eq_false e]; exact Bool.noConfusion), if_pos (show dst (mC M) (mO M) (mX M) (mE M) < 0 by omega)]
      exact ⟨_, rfl⟩
  · rw [if_neg (show ¬ (jI 1 = (0 : Int32)) by decide), if_pos (show jI 1 = (1 : Int32) by decide)]
    rw [u1, bnd_s, u2]
    exact ⟨_, rfl⟩
  · rw [if_neg (show ¬ (jI 2 = (0 : Int32)) by decide), if_neg (show ¬ (jI 2 = (1 : Int32)) by decide), if_pos (show jI 2 = (2 : Int32) by decide)]
    rw [z1, bnd_s]
    simp only [jn_e, z2, ifb]
    unfold drawnA
    rw [if_neg (show ¬ ((2 : Int) = 0) by omega), if_neg (show ¬ ((2 : Int) = 1) by omega), if_pos (show (2 : Int) = 2 from rfl)]
    cases hr : (wres M).1
    · exact ⟨_, rfl⟩
    · simp only [if_true]
      rw [walkCells8 (by omega) h hw.1 z3, bnd_s]
      exact ⟨_, rfl⟩
  · rw [if_neg (show ¬ (jI 3 = (0 : Int32)) by decide), if_neg (show ¬ (jI 3 = (1 : Int32)) by decide), if_neg (show ¬ (jI 3 = (2 : Int32)) by decide), if_pos (show jI 3 = (3 : Int32) by decide)]
    rw [z1, bnd_s]
    simp only [jn_e, z2, ifb]
    unfold drawnA
    rw [if_neg (show ¬ ((3 : Int) = 0) by omega), if_neg (show ¬ ((3 : Int) = 1) by omega), if_neg (show ¬ ((3 : Int) = 2) by omega), if_pos (show (3 : Int) = 3 from rfl)]
    cases hr : (wres M).1
    · exact ⟨_, rfl⟩
    · simp only [if_true]
      rw [walkFault8 (by omega) h hw z3 hzb, bnd_s]
      exact ⟨_, rfl⟩
  · rw [if_neg (show ¬ (jI 4 = (0 : Int32)) by decide), if_neg (show ¬ (jI 4 = (1 : Int32)) by decide), if_neg (show ¬ (jI 4 = (2 : Int32)) by decide), if_neg (show ¬ (jI 4 = (3 : Int32)) by decide), if_pos (show jI 4 = (4 : Int32) by decide)]
    rw [gl4, cl4, h.2.2.2.2.1, y1, bnd_s]
    simp only [jn_e, y2, ifb]
    have eA : drawnA M 4 = if dst (mC M) (mO M) (mX M) (mE M) < 0 then -4 else (turnsOf (wy (mC M) (mO M) (mX M) (mE M)) : Int) := rfl
    rw [eA]
    by_cases e : 0 ≤ dst (mC M) (mO M) (mX M) (mE M)
    · rw [if_pos (decide_eq_true e), if_neg (show ¬ dst (mC M) (mO M) (mX M) (mE M) < 0 by omega), y6]
      exact ⟨_, rfl⟩
    · rw [if_neg (show ¬ (decide (0 ≤ dst (mC M) (mO M) (mX M) (mE M)) = true) by rw [decide_eq_false e]; exact Bool.noConfusion), if_pos (show dst (mC M) (mO M) (mX M) (mE M) < 0 by omega)]
      exact ⟨_, rfl⟩
  · rw [j_0, if_neg (jne ha (by omega) n0), j_1, if_neg (jne ha (by omega) n1), j_2, if_neg (jne ha (by omega) n2), j_3, if_neg (jne ha (by omega) n3), j_4, if_neg (jne ha (by omega) n4)]
    unfold drawnA
    rw [if_neg n0, if_neg n1, if_neg n2, if_neg n3, if_neg n4]
    exact ⟨_, rfl⟩
def countA (M : Mz) (n L : Nat) (k : Bool) (a : Int) : Int := if a = 0 then (mC M : Int) else if a = 1 then (mR M : Int) else if a = 2 then (cnt (mO M) (2 * mN M) : Int) else if a = 3 then partI M else if a = 4 then (b01 (decide (partI M = 1)) : Int) else if a = 5 then (endN M : Int) else if a = 6 then (toneS M : Int) else if a = 7 then (n : Int) else if a = 8 then (L : Int) else if a = 9 then (b01 k : Int) else -1
theorem count3 {hs : HS} {pt : PT} {kb : Bool} {L : Nat} (hF : 145 < F) (h : R3 v M) (hw : WF M) (hh : hs.1 = jI (n : Nat)) (hp : pt.1 = jI (L : Nat)) (ha : -2147483648 ≤ a ∧ a < 2147483648) : mX7_count F (bI kb) v hs pt (jI a) = some (jI (countA M n L kb a)) := by
  have hN := dm_le hw.1
  unfold mX7_count
  have hk : a = 0 ∨ a = 1 ∨ a = 2 ∨ a = 3 ∨ a = 4 ∨ a = 5 ∨ a = 6 ∨ a = 7 ∨ a = 8 ∨ a = 9 ∨ (a ≠ 0 ∧ a ≠ 1 ∧ a ≠ 2 ∧ a ≠ 3 ∧ a ≠ 4 ∧ a ≠ 5 ∧ a ≠ 6 ∧ a ≠ 7 ∧ a ≠ 8 ∧ a ≠ 9) := by omega
  rcases hk with rfl | rfl | rfl | rfl | rfl | rfl | rfl | rfl | rfl | rfl | ⟨n0, n1, n2, n3, n4, n5, n6, n7, n8, n9⟩
  · rw [if_pos (show jI 0 = (0 : Int32) by decide)]
    rw [h.1]; rfl
  · rw [if_neg (show ¬ (jI 1 = (0 : Int32)) by decide), if_pos (show jI 1 = (1 : Int32) by decide)]
    rw [h.2.1]; rfl
  · rw [if_neg (show ¬ (jI 2 = (0 : Int32)) by decide), if_neg (show ¬ (jI 2 = (1 : Int32)) by decide), if_pos (show jI 2 = (2 : Int32) by decide)]
    rw [passageCount3 (by omega) h hw.1 hw.2.2.1, bnd_s]; rfl
  · rw [if_neg (show ¬ (jI 3 = (0 : Int32)) by decide), if_neg (show ¬ (jI 3 = (1 : Int32)) by decide), if_neg (show ¬ (jI 3 = (2 : Int32)) by decide), if_pos (show jI 3 = (3 : Int32) by decide)]
    rw [parts3 (by omega) h hw.1 hw.2.2.1, bnd_s]; rfl
  · rw [if_neg (show ¬ (jI 4 = (0 : Int32)) by decide), if_neg (show ¬ (jI 4 = (1 : Int32)) by decide), if_neg (show ¬ (jI 4 = (2 : Int32)) by decide), if_neg (show ¬ (jI 4 = (3 : Int32)) by decide), if_pos (show jI 4 = (4 : Int32) by decide)]
    rw [isWhole3 (by omega) h hw.1 hw.2.2.1, bnd_s]
    simp only [jn_e, ifb]
    show _ = some (jI (b01 (decide (partI M = 1)) : Int))
    cases decide (partI M = 1) <;> rfl
  · rw [if_neg (show ¬ (jI 5 = (0 : Int32)) by decide), if_neg (show ¬ (jI 5 = (1 : Int32)) by decide), if_neg (show ¬ (jI 5 = (2 : Int32)) by decide), if_neg (show ¬ (jI 5 = (3 : Int32)) by decide), if_neg (show ¬ (jI 5 = (4 : Int32)) by decide), if_pos (show jI 5 = (5 : Int32) by decide)]
    rw [deadEnds3 (by omega) h hw.1, bnd_s]; rfl
  · rw [if_neg (show ¬ (jI 6 = (0 : Int32)) by decide), if_neg (show ¬ (jI 6 = (1 : Int32)) by decide), if_neg (show ¬ (jI 6 = (2 : Int32)) by decide), if_neg (show ¬ (jI 6 = (3 : Int32)) by decide), if_neg (show ¬ (jI 6 = (4 : Int32)) by decide), if_neg (show ¬ (jI 6 = (5 : Int32)) by decide), if_pos (show jI 6 = (6 : Int32) by decide)]
    rw [toneSum3 (by omega) h hw.1, bnd_s]; rfl
  · rw [if_neg (show ¬ (jI 7 = (0 : Int32)) by decide), if_neg (show ¬ (jI 7 = (1 : Int32)) by decide), if_neg (show ¬ (jI 7 = (2 : Int32)) by decide), if_neg (show ¬ (jI 7 = (3 : Int32)) by decide), if_neg (show ¬ (jI 7 = (4 : Int32)) by decide), if_neg (show ¬ (jI 7 = (5 : Int32)) by decide), if_neg (show ¬ (jI 7 = (6 : Int32)) by decide), if_pos (show jI 7 = (7 : Int32) by decide)]
    rw [hh]; rfl
  · rw [if_neg (show ¬ (jI 8 = (0 : Int32)) by decide), if_neg (show ¬ (jI 8 = (1 : Int32)) by decide), if_neg (show ¬ (jI 8 = (2 : Int32)) by decide), if_neg (show ¬ (jI 8 = (3 : Int32)) by decide), if_neg (show ¬ (jI 8 = (4 : Int32)) by decide), if_neg (show ¬ (jI 8 = (5 : Int32)) by decide), if_neg (show ¬ (jI 8 = (6 : Int32)) by decide), if_neg (show ¬ (jI 8 = (7 : Int32)) by decide), if_pos (show jI 8 = (8 : Int32) by decide)]
    rw [hp]; rfl
  · rw [if_neg (show ¬ (jI 9 = (0 : Int32)) by decide), if_neg (show ¬ (jI 9 = (1 : Int32)) by decide), if_neg (show ¬ (jI 9 = (2 : Int32)) by decide), if_neg (show ¬ (jI 9 = (3 : Int32)) by decide), if_neg (show ¬ (jI 9 = (4 : Int32)) by decide), if_neg (show ¬ (jI 9 = (5 : Int32)) by decide), if_neg (show ¬ (jI 9 = (6 : Int32)) by decide), if_neg (show ¬ (jI 9 = (7 : Int32)) by decide), if_neg (show ¬ (jI 9 = (8 : Int32)) by decide), if_pos (show jI 9 = (9 : Int32) by decide)]
    simp only [jn_e, ifb]
    show _ = some (jI (b01 kb : Int))
    cases kb <;> rfl
  · rw [j_0, if_neg (jne ha (by omega) n0), j_1, if_neg (jne ha (by omega) n1), j_2, if_neg (jne ha (by omega) n2), j_3, if_neg (jne ha (by omega) n3), j_4, if_neg (jne ha (by omega) n4), j_5, if_neg (jne ha (by omega) n5), j_6, if_neg (jne ha (by omega) n6), j_7, if_neg (jne ha (by omega) n7), j_8, if_neg (jne ha (by omega) n8), j_9, if_neg (jne ha (by omega) n9)]
    unfold countA
    rw [if_neg n0, if_neg n1, if_neg n2, if_neg n3, if_neg n4, if_neg n5, if_neg n6, if_neg n7, if_neg n8, if_neg n9]
    rfl
theorem count8 {kb : Bool} {L : Nat} (hF : 145 < F) (h : R8 s M) (hw : WF M) (ha : -2147483648 ≤ a ∧ a < 2147483648) : mX8_count F s (bI kb) (jI (n : Nat)) (jI (L : Nat)) (jI a) = some (jI (countA M n L kb a)) := by
  have hN := dm_le hw.1
  unfold mX8_count
  have hk : a = 0 ∨ a = 1 ∨ a = 2 ∨ a = 3 ∨ a = 4 ∨ a = 5 ∨ a = 6 ∨ a = 7 ∨ a = 8 ∨ (a ≠ 0 ∧ a ≠ 1 ∧ a ≠ 2 ∧ a ≠ 3 ∧ a ≠ 4 ∧ a ≠ 5 ∧ a ≠ 6 ∧ a ≠ 7 ∧ a ≠ 8) := by omega
  rcases hk with rfl | rfl | rfl | rfl | rfl | rfl | rfl | rfl | rfl | ⟨n0, n1, n2, n3, n4, n5, n6, n7, n8⟩
  · rw [if_pos (show jI 0 = (0 : Int32) by decide)]
    rw [show jI 0 = jI ((0 : Nat) : Int) from rfl, gdi (by omega) (by omega), jcl 0 (by omega), h.1]; rfl
  · rw [if_neg (show ¬ (jI 1 = (0 : Int32)) by decide), if_pos (show jI 1 = (1 : Int32) by decide)]
    rw [show jI 1 = jI ((1 : Nat) : Int) from rfl, gdi (by omega) (by omega), jcl 1 (by omega), h.2.1]; rfl
  · rw [if_neg (show ¬ (jI 2 = (0 : Int32)) by decide), if_neg (show ¬ (jI 2 = (1 : Int32)) by decide), if_pos (show jI 2 = (2 : Int32) by decide)]
    rw [passages8 (by omega) h hw.1, bnd_s]; rfl
  · rw [if_neg (show ¬ (jI 3 = (0 : Int32)) by decide), if_neg (show ¬ (jI 3 = (1 : Int32)) by decide), if_neg (show ¬ (jI 3 = (2 : Int32)) by decide), if_pos (show jI 3 = (3 : Int32) by decide)]
    rw [parts8 (by omega) h hw.1, bnd_s]; rfl
  · rw [if_neg (show ¬ (jI 4 = (0 : Int32)) by decide), if_neg (show ¬ (jI 4 = (1 : Int32)) by decide), if_neg (show ¬ (jI 4 = (2 : Int32)) by decide), if_neg (show ¬ (jI 4 = (3 : Int32)) by decide), if_pos (show jI 4 = (4 : Int32) by decide)]
    rw [isWhole8 (by omega) h hw.1, bnd_s]
    simp only [jn_e, ifb]
    show _ = some (jI (b01 (decide (partI M = 1)) : Int))
    cases decide (partI M = 1) <;> rfl
  · rw [if_neg (show ¬ (jI 5 = (0 : Int32)) by decide), if_neg (show ¬ (jI 5 = (1 : Int32)) by decide), if_neg (show ¬ (jI 5 = (2 : Int32)) by decide), if_neg (show ¬ (jI 5 = (3 : Int32)) by decide), if_neg (show ¬ (jI 5 = (4 : Int32)) by decide), if_pos (show jI 5 = (5 : Int32) by decide)]
    rw [ends8 (by omega) h hw.1, bnd_s]; rfl
  · rw [if_neg (show ¬ (jI 6 = (0 : Int32)) by decide), if_neg (show ¬ (jI 6 = (1 : Int32)) by decide), if_neg (show ¬ (jI 6 = (2 : Int32)) by decide), if_neg (show ¬ (jI 6 = (3 : Int32)) by decide), if_neg (show ¬ (jI 6 = (4 : Int32)) by decide), if_neg (show ¬ (jI 6 = (5 : Int32)) by decide), if_pos (show jI 6 = (6 : Int32) by decide)]
    rw [tones8 (by omega) h hw.1, bnd_s]; rfl
  · rw [if_neg (show ¬ (jI 7 = (0 : Int32)) by decide), if_neg (show ¬ (jI 7 = (1 : Int32)) by decide), if_neg (show ¬ (jI 7 = (2 : Int32)) by decide), if_neg (show ¬ (jI 7 = (3 : Int32)) by decide), if_neg (show ¬ (jI 7 = (4 : Int32)) by decide), if_neg (show ¬ (jI 7 = (5 : Int32)) by decide), if_neg (show ¬ (jI 7 = (6 : Int32)) by decide), if_pos (show jI 7 = (7 : Int32) by decide)]
    rfl
  · rw [if_neg (show ¬ (jI 8 = (0 : Int32)) by decide), if_neg (show ¬ (jI 8 = (1 : Int32)) by decide), if_neg (show ¬ (jI 8 = (2 : Int32)) by decide), if_neg (show ¬ (jI 8 = (3 : Int32)) by decide), if_neg (show ¬ (jI 8 = (4 : Int32)) by decide), if_neg (show ¬ (jI 8 = (5 : Int32)) by decide), if_neg (show ¬ (jI 8 = (6 : Int32)) by decide), if_neg (show ¬ (jI 8 = (7 : Int32)) by decide), if_pos (show jI 8 = (8 : Int32) by decide)]
    rfl
  · rw [j_0, if_neg (jne ha (by omega) n0), j_1, if_neg (jne ha (by omega) n1), j_2, if_neg (jne ha (by omega) n2), j_3, if_neg (jne ha (by omega) n3), j_4, if_neg (jne ha (by omega) n4), j_5, if_neg (jne ha (by omega) n5), j_6, if_neg (jne ha (by omega) n6), j_7, if_neg (jne ha (by omega) n7), j_8, if_neg (jne ha (by omega) n8)]
    simp only [jn_e, ifb]
    unfold countA
    rw [if_neg n0, if_neg n1, if_neg n2, if_neg n3, if_neg n4, if_neg n5, if_neg n6, if_neg n7, if_neg n8]
    by_cases n9 : a = 9
    · rw [if_pos n9, if_pos (show jI a = (9 : Int32) by rw [n9]; decide)]
      cases kb <;> rfl
    · rw [if_neg n9, j_9, if_neg (jne ha (by omega) n9)]
      rfl
/-- what doorOf answers -/
def doorA (M : Mz) (a b : Int) : Int := if 0 ≤ a ∧ a < 2 ∧ 0 ≤ b ∧ b < 2 then (if a = 0 then (if b = 0 then (mE M : Int) else (mEs M : Int)) else (if b = 0 then (mX M : Int) else (mXs M : Int))) else -1
theorem doorOf3 (h : R3 v M) (ha : -2147483648 ≤ a ∧ a < 2147483648) (hb : -2147483648 ≤ b ∧ b < 2147483648) : mX7_doorOf v (jI a) (jI b) = some (jI (doorA M a b)) := by
  unfold mX7_doorOf doorA
  rw [isDoor3 ha, bnd_s, ifb]
  by_cases e : 0 ≤ a ∧ a < 2
  · rw [if_pos (decide_eq_true e)]
    have hA : ∀ f : nF, mX7_at 2 f (jI a) = some (f a.toNat) := by
      intro f
      have : a = ((a.toNat : Nat) : Int) := by omega
      rw [this, at_i (by omega) (by omega)]
      rfl
    have ha2 : a = 0 ∨ a = 1 := by omega
    by_cases q : b = 0
    · rw [j_0, jeq_t q, if_pos (by omega), hA, bnd_s]
      rcases ha2 with rfl | rfl
      · rw [if_pos rfl, if_pos q]; exact congrArg some h.2.2.2.2.1
      · rw [if_neg (by omega), if_pos q]; exact congrArg some h.2.2.2.2.2.1
    · rw [j_0, jeq_f hb (by omega) q]
      by_cases q1 : b = 1
      · rw [j_1, jeq_t q1, if_pos (by omega), hA, bnd_s]
        rcases ha2 with rfl | rfl
        · rw [if_pos rfl, if_neg q]; exact congrArg some h.2.2.2.2.2.2.1
        · rw [if_neg (by omega), if_neg q]; exact congrArg some h.2.2.2.2.2.2.2
      · rw [j_1, jeq_f hb (by omega) q1, if_neg (by omega)]; rfl
  · rw [if_neg (by rw [decide_eq_false e]; exact Bool.noConfusion), if_neg (by omega)]; rfl
theorem doorOf8 (h : R8 s M) (ha : -2147483648 ≤ a ∧ a < 2147483648) (hb : -2147483648 ≤ b ∧ b < 2147483648) : mX8_doorOf s (jI a) (jI b) = some (jI (doorA M a b)) := by
  unfold mX8_doorOf doorA
  rw [j_0, j_1, in8 ha (by omega) (by omega), bnd_s]
  simp only [jn_e, ← j_0, ifb]
  by_cases e : 0 ≤ a ∧ a ≤ 1
  · rw [if_pos (decide_eq_true e), j_0, in8 hb (by omega) (by omega), bnd_s, ← j_0, ifb]
    by_cases q : 0 ≤ b ∧ b ≤ 1
    · rw [if_pos (decide_eq_true q), if_pos (by omega), j_2, jI_mul, jI_add, jI_add]
      have ha2 : a = 0 ∨ a = 1 := by omega
      have hb2 : b = 0 ∨ b = 1 := by omega
      rcases ha2 with rfl | rfl <;> rcases hb2 with rfl | rfl
      · rw [show jI (2 + 2 * 0 + 0) = jI ((2 : Nat) : Int) from rfl, gdi (by omega) (by omega), jcl 2 (by omega), h.2.2.1]; rfl
      · rw [show jI (2 + 2 * 0 + 1) = jI ((3 : Nat) : Int) from rfl, gdi (by omega) (by omega), jcl 3 (by omega), h.2.2.2.1]; rfl
      · rw [show jI (2 + 2 * 1 + 0) = jI ((4 : Nat) : Int) from rfl, gdi (by omega) (by omega), jcl 4 (by omega), h.2.2.2.2.1]; rfl
      · rw [show jI (2 + 2 * 1 + 1) = jI ((5 : Nat) : Int) from rfl, gdi (by omega) (by omega), jcl 5 (by omega), h.2.2.2.2.2.1]; rfl
    · rw [if_neg (by rw [decide_eq_false q]; exact Bool.noConfusion), if_neg (by omega)]; rfl
  · rw [if_neg (by rw [decide_eq_false e]; exact Bool.noConfusion), if_neg (by omega)]; rfl
/-- what cellOf answers of a cell -/
noncomputable def cellB (M : Mz) (p : Nat) (b : Int) : Int := if b = 0 then (mT M p : Int) else if b = 1 then (mask (mC M) (mN M) (mO M) p : Int) else if b = 2 then (lowF (joined M p) (mN M) : Int) else if b = 3 then (partN M p : Int) else if b = 4 then (if dst (mC M) (mO M) (mE M) p < 0 then -4 else dst (mC M) (mO M) (mE M) p) else if b = 5 then (b01 (decide (p ∈ wy (mC M) (mO M) (mX M) (mE M))) : Int) else if b = 6 then (if (wres M).1 = true then ((wres M).2 p : Int) else -4) else -1
noncomputable def cellA (M : Mz) (a b : Int) : Int := if 0 ≤ a ∧ a < (mN M : Int) then cellB M a.toNat b else -1
theorem cellOf3 (hF : 145 < F) (h : R3 v M) (hw : WF M) (hb : -2147483648 ≤ b ∧ b < 2147483648) (ha : -2147483648 ≤ a ∧ a < 2147483648) : ∃ z, mX7_cellOf F v w1 w2 w3 wk (jI b) (jI a) = some (jI (cellA M b a), z) := by
  have hw2 := hw.w2
  have hN := dm_le hw.1
  have hE : mE M < mN M := hw.2.2.2.2.1.1
  have hX : mX M < mN M := hw.2.2.2.2.2.1.1
  unfold mX7_cellOf cellA
  rw [hasCell3 h hw.1 hb, bnd_s, ifb]
  by_cases e : 0 ≤ b ∧ b < (mN M : Int)
  · rw [if_pos (decide_eq_true e), if_pos e]
    obtain ⟨p, rfl⟩ := Int.eq_ofNat_of_zero_le e.1
    have hp : p < mN M := by omega
    simp only [Int.toNat_natCast]
    obtain ⟨w', q1, q2⟩ := findFrom3 (w := w1) (F := F) (by omega) h hw2 hp
    obtain ⟨y, y1⟩ := between3 (w := w1) (F := F) (a := (mE M : Int)) (b := (p : Int)) (by omega) h hw2 (by omega) (by omega)
    obtain ⟨u, u1⟩ := isOnWay3 (w1 := w2) (w2 := w3) (F := F) (by omega) h hw2 hX hE hp
    obtain ⟨z, z1, z2, z3, z4, z5⟩ := take3 (wk := wk) (F := F) (by omega) h hw
    have hk : a = 0 ∨ a = 1 ∨ a = 2 ∨ a = 3 ∨ a = 4 ∨ a = 5 ∨ a = 6 ∨ (a ≠ 0 ∧ a ≠ 1 ∧ a ≠ 2 ∧ a ≠ 3 ∧ a ≠ 4 ∧ a ≠ 5 ∧ a ≠ 6) := by omega
    rcases hk with rfl | rfl | rfl | rfl | rfl | rfl | rfl | ⟨n0, n1, n2, n3, n4, n5, n6⟩
    · rw [if_pos (show jI 0 = (0 : Int32) by decide)]
      rw [at_i (by omega) (by omega), bnd_s, h.2.2.1 p hp]
      exact ⟨_, rfl⟩
    · rw [if_neg (show ¬ (jI 1 = (0 : Int32)) by decide), if_pos (show jI 1 = (1 : Int32) by decide)]
      rw [at_i (by omega) (by omega), bnd_s, h.2.2.2.1 p hp]
      exact ⟨_, rfl⟩
    · rw [if_neg (show ¬ (jI 2 = (0 : Int32)) by decide), if_neg (show ¬ (jI 2 = (1 : Int32)) by decide), if_pos (show jI 2 = (2 : Int32) by decide)]
      rw [q1, bnd_s, lowest3 (by omega) hw2 hp q2, bnd_s]
      exact ⟨_, rfl⟩
    · rw [if_neg (show ¬ (jI 3 = (0 : Int32)) by decide), if_neg (show ¬ (jI 3 = (1 : Int32)) by decide), if_neg (show ¬ (jI 3 = (2 : Int32)) by decide), if_pos (show jI 3 = (3 : Int32) by decide)]
      rw [q1, bnd_s, cells_part hw2 q2]
      exact ⟨_, rfl⟩
    · rw [if_neg (show ¬ (jI 4 = (0 : Int32)) by decide), if_neg (show ¬ (jI 4 = (1 : Int32)) by decide), if_neg (show ¬ (jI 4 = (2 : Int32)) by decide), if_neg (show ¬ (jI 4 = (3 : Int32)) by decide), if_pos (show jI 4 = (4 : Int32) by decide)]
      rw [entry3 h, bnd_s, y1, bnd_s]
      have e5 : betwA M (mE M : Int) (p : Int) = cellB M p 4 := by
        unfold betwA
        rw [if_pos (by omega)]
        rfl
      rw [e5]
      exact ⟨_, rfl⟩
    · rw [if_neg (show ¬ (jI 5 = (0 : Int32)) by decide), if_neg (show ¬ (jI 5 = (1 : Int32)) by decide), if_neg (show ¬ (jI 5 = (2 : Int32)) by decide), if_neg (show ¬ (jI 5 = (3 : Int32)) by decide), if_neg (show ¬ (jI 5 = (4 : Int32)) by decide), if_pos (show jI 5 = (5 : Int32) by decide)]
      rw [u1, bnd_s]
      simp only [jn_e, ifb]
      show ∃ z, _ = some (jI (b01 (decide (p ∈ wy (mC M) (mO M) (mX M) (mE M))) : Int), z)
      cases decide (p ∈ wy (mC M) (mO M) (mX M) (mE M))
      · exact ⟨_, rfl⟩
      · exact ⟨_, rfl⟩
    · rw [if_neg (show ¬ (jI 6 = (0 : Int32)) by decide), if_neg (show ¬ (jI 6 = (1 : Int32)) by decide), if_neg (show ¬ (jI 6 = (2 : Int32)) by decide), if_neg (show ¬ (jI 6 = (3 : Int32)) by decide), if_neg (show ¬ (jI 6 = (4 : Int32)) by decide), if_neg (show ¬ (jI 6 = (5 : Int32)) by decide), if_pos (show jI 6 = (6 : Int32) by decide)]
      rw [z1, bnd_s]
      simp only [jn_e, z2, ifb]
      show ∃ z, _ = some (jI (if (wres M).1 = true then ((wres M).2 p : Int) else -4), z)
      cases hr : (wres M).1
      · exact ⟨_, rfl⟩
      · simp only [Bool.not_true, if_neg (show ¬ (false = true) from Bool.noConfusion), if_true]
        rw [at_i (by omega) (by omega), bnd_s, z4 p hp]
        exact ⟨_, rfl⟩
    · rw [j_0, if_neg (jne ha (by omega) n0), j_1, if_neg (jne ha (by omega) n1), j_2, if_neg (jne ha (by omega) n2), j_3, if_neg (jne ha (by omega) n3), j_4, if_neg (jne ha (by omega) n4), j_5, if_neg (jne ha (by omega) n5), j_6, if_neg (jne ha (by omega) n6)]
      unfold cellB
      rw [if_neg n0, if_neg n1, if_neg n2, if_neg n3, if_neg n4, if_neg n5, if_neg n6]
      exact ⟨_, rfl⟩
  · rw [if_neg (by rw [decide_eq_false e]; exact Bool.noConfusion), if_neg e]
    exact ⟨_, rfl⟩
theorem cellOf8 {f0 q0 o0 st0 vi ws : nF} {wc tu : Int32} (hF : 145 < F) (h : R8 s M) (hw : WF M) (hb : -2147483648 ≤ b ∧ b < 2147483648) (ha : -2147483648 ≤ a ∧ a < 2147483648) : ∃ z, mX8_cellOf F s f0 q0 o0 st0 wc tu vi ws (jI b) (jI a) = some (jI (cellA M b a), z) := by
  have hw2 := hw.w2
  have hN := dm_le hw.1
  have hE : mE M < mN M := hw.2.2.2.2.1.1
  have hX : mX M < mN M := hw.2.2.2.2.2.1.1
  unfold mX8_cellOf cellA
  rw [isCell8 h hw.1 hb, bnd_s]
  simp only [jn_e, ifb]
  by_cases e : 0 ≤ b ∧ b < (mN M : Int)
  · rw [if_pos (decide_eq_true e), if_pos e]
    obtain ⟨p, rfl⟩ := Int.eq_ofNat_of_zero_le e.1
    have hp : p < mN M := by omega
    simp only [Int.toNat_natCast]
    have e8 : mX8_in (jI a) (0 : Int32) (6 : Int32) = some (bI (decide (0 ≤ a ∧ a ≤ 6))) := by rw [j_0, j_6]; exact in8 ha (by omega) (by omega)
    rw [e8, bnd_s, ifb]
    by_cases e6 : 0 ≤ a ∧ a ≤ 6
    · rw [if_pos (decide_eq_true e6)]
      obtain ⟨y1, k1⟩ := partOf8 (f0 := f0) (q0 := q0) (F := F) (lb := true) (by omega) h hw2 hp
      obtain ⟨y2, k2⟩ := partOf8 (f0 := f0) (q0 := q0) (F := F) (lb := false) (by omega) h hw2 hp
      obtain ⟨y3, k3, k4⟩ := measures8 (f0 := f0) (q0 := q0) (F := F) (by omega) h hw2 hE
      obtain ⟨u, u1⟩ := onWay8 (f0 := f0) (q0 := q0) (o0 := o0) (st0 := st0) (wc := wc) (tu := tu) (F := F) (by omega) h hw2 hX hE hp
      obtain ⟨z, z1, z2, z3⟩ := walks8 (vi := vi) (ws := ws) (F := F) (by omega) h hw
      have hk : a = 0 ∨ a = 1 ∨ a = 2 ∨ a = 3 ∨ a = 4 ∨ a = 5 ∨ (a ≠ 0 ∧ a ≠ 1 ∧ a ≠ 2 ∧ a ≠ 3 ∧ a ≠ 4 ∧ a ≠ 5) := by omega
      rcases hk with rfl | rfl | rfl | rfl | rfl | rfl | ⟨n0, n1, n2, n3, n4, n5⟩
      · rw [if_pos (show jI 0 = (0 : Int32) by decide)]
        rw [j6p, gdi (by omega) (by omega), jcl _ (by omega), h.2.2.2.2.2.2.1 p hp]
        exact ⟨_, rfl⟩
      · rw [if_neg (show ¬ (jI 1 = (0 : Int32)) by decide), if_pos (show jI 1 = (1 : Int32) by decide)]
        rw [directions8 (by omega) h hw.1 hp, bnd_s]
        exact ⟨_, rfl⟩
      · rw [if_neg (show ¬ (jI 2 = (0 : Int32)) by decide), if_neg (show ¬ (jI 2 = (1 : Int32)) by decide), if_pos (show jI 2 = (2 : Int32) by decide)]
        rw [show (1 : Int32) = bI true from rfl, k1, bnd_s]
        exact ⟨_, rfl⟩
      · rw [if_neg (show ¬ (jI 3 = (0 : Int32)) by decide), if_neg (show ¬ (jI 3 = (1 : Int32)) by decide), if_neg (show ¬ (jI 3 = (2 : Int32)) by decide), if_pos (show jI 3 = (3 : Int32) by decide)]
        rw [show (0 : Int32) = bI false from rfl, k2, bnd_s]
        exact ⟨_, rfl⟩
      · rw [if_neg (show ¬ (jI 4 = (0 : Int32)) by decide), if_neg (show ¬ (jI 4 = (1 : Int32)) by decide), if_neg (show ¬ (jI 4 = (2 : Int32)) by decide), if_neg (show ¬ (jI 4 = (3 : Int32)) by decide), if_pos (show jI 4 = (4 : Int32) by decide)]
        rw [gl2, cl2, h.2.2.1, k3, bnd_s, gdi (by omega) (by omega), jcl _ (by omega), k4 p hp, orNone8 (dst_b hw2 hE hp), bnd_s]
        exact ⟨_, rfl⟩
      · rw [if_neg (show ¬ (jI 5 = (0 : Int32)) by decide), if_neg (show ¬ (jI 5 = (1 : Int32)) by decide), if_neg (show ¬ (jI 5 = (2 : Int32)) by decide), if_neg (show ¬ (jI 5 = (3 : Int32)) by decide), if_neg (show ¬ (jI 5 = (4 : Int32)) by decide), if_pos (show jI 5 = (5 : Int32) by decide)]
        rw [u1, bnd_s]
        show ∃ z, _ = some (jI (b01 (decide (p ∈ wy (mC M) (mO M) (mX M) (mE M))) : Int), z)
        rw [bnat]
        exact ⟨_, rfl⟩
      · rw [j_0, if_neg (jne ha (by omega) n0), j_1, if_neg (jne ha (by omega) n1), j_2, if_neg (jne ha (by omega) n2), j_3, if_neg (jne ha (by omega) n3), j_4, if_neg (jne ha (by omega) n4), j_5, if_neg (jne ha (by omega) n5)]
        have n6 : a = 6 := by omega
        subst n6
        rw [z1, bnd_s]
        simp only [z2, ← j_0, ifb]
        show ∃ z, _ = some (jI (if (wres M).1 = true then ((wres M).2 p : Int) else -4), z)
        cases hr : (wres M).1
        · exact ⟨_, rfl⟩
        · simp only [if_true]
          rw [gdi (by omega) (by omega), jcl _ (by omega), z3 p hp]
          exact ⟨_, rfl⟩
    · rw [if_neg (by rw [decide_eq_false e6]; exact Bool.noConfusion)]
      unfold cellB
      rw [if_neg (show ¬ a = 0 by omega), if_neg (show ¬ a = 1 by omega), if_neg (show ¬ a = 2 by omega), if_neg (show ¬ a = 3 by omega), if_neg (show ¬ a = 4 by omega), if_neg (show ¬ a = 5 by omega), if_neg (show ¬ a = 6 by omega)]
      exact ⟨_, rfl⟩
  · rw [if_neg (by rw [decide_eq_false e]; exact Bool.noConfusion), if_neg e]
    exact ⟨_, rfl⟩
end AN
