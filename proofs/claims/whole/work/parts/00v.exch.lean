/-! EXCHANGES: the two sides of a cut, the fault behind an exchange, the best one -/
def cutM (M : Mz) (k : Nat) : Mz := setO M (setE (mO M) k false)
def xM (M : Mz) (k j : Nat) : Mz := setO M (setE (setE (mO M) k false) j true)
noncomputable def side (M : Mz) (k x : Nat) : Bool := decide (0 ≤ dst (mC M) (setE (mO M) k false) (mE M) x)
noncomputable def candB (M : Mz) (k j : Nat) : Bool := match nd (mC M) (mN M) j with
  | none => false
  | some o => !(mO M j) && (side M k (pA j) != side M k o)
noncomputable def exF (M : Mz) (k j : Nat) : Int := faultI (xM M k j) (mX M)
noncomputable def exj (M : Mz) (k : Nat) : Nat → (Int × Int × Int) → (Int × Int × Int)
  | 0, t => t
  | j + 1, t => if candB M k j = true ∧ exF M k j < (exj M k j t).2.2 then ((k : Int), (j : Int), exF M k j) else exj M k j t
noncomputable def exk (M : Mz) : Nat → (Int × Int × Int)
  | 0 => (-1, -1, 1000000)
  | k + 1 => if mO M k = true then exj M k (2 * mN M) (exk M k) else exk M k
noncomputable def exT (M : Mz) : Int × Int × Int := exk M (2 * mN M)
section EX
variable {M : Mz} {c d F n i j k x y : Nat}
theorem side_t : side M k x = true ↔ conn (mC M) (setE (mO M) k false) (mE M) x := by
  unfold side
  rw [decide_eq_true_iff, dst_c]
theorem cand_t (hw : WF2 M) (hj : j < 2 * mN M) : candB M k j = true ↔ vld (mC M) (mN M) j ∧ mO M j = false ∧ side M k (pA j) ≠ side M k (pB (mC M) j) := by
  unfold candB
  cases hn : nd (mC M) (mN M) j with
  | none =>
    constructor
    · intro z; cases z
    · intro z
      rw [nd_vld z.1] at hn; cases hn
  | some o =>
    obtain ⟨n1, n2, n3⟩ := nd_lt hw.1 hj hn
    show (!(mO M j) && (side M k (pA j) != side M k o)) = true ↔ _
    rw [n3, Bool.and_eq_true, bne_iff_ne, Bool.not_eq_true']
    exact ⟨fun z => ⟨n2, z.1, z.2⟩, fun z => ⟨z.2.1, z.2.2⟩⟩
theorem whole_all (hw : WF2 M) (h1 : partI M = 1) (hx : x < mN M) (hy : y < mN M) : conn (mC M) (mO M) x y := by
  have hN := dm_le hw.1
  have hG := vO_inG hw.1.1 hw.1.2.1 hw.1.2.2.1 hw.1.2.2.2 hw.2.1
  refine whole_conn hw.2.2 hG ?_ hx hy
  have e : cnt (mO M) (2 * mN M) = cnt (mO M) (2 * (mC M * mR M)) := rfl
  unfold partI at h1
  omega
theorem cand_nc (hw : WF2 M) (hj : j < 2 * mN M) (h : candB M k j = true) : ¬ conn (mC M) (setE (mO M) k false) (pA j) (pB (mC M) j) := by
  obtain ⟨h1, h2, h3⟩ := (cand_t hw hj).mp h
  intro hc
  apply h3
  rw [Bool.eq_iff_iff, side_t, side_t]
  exact ⟨fun z => conn_tr z hc, fun z => conn_tr z (conn_sy hc)⟩
theorem xM_wf (hw : WF M) (hj : j < 2 * mN M) (h : candB M k j = true) : WF (xM M k j) := by
  obtain ⟨h1, h2, h3⟩ := (cand_t hw.w2 hj).mp h
  refine WF_setO hw ?_ (forest_ins (forest_del hw.2.2.2.1) (cand_nc hw.w2 hj h))
  refine vO_set (fun i hi => hw.2.2.1 i (del_mo i hi)) h1
theorem cut_wf (hw : WF M) : WF (cutM M k) := WF_setO hw (fun i hi => hw.2.2.1 i (del_mo i hi)) (forest_del hw.2.2.2.1)
theorem xM_part (hw : WF M) (hk : k < 2 * mN M) (ho : mO M k = true) (hj : j < 2 * mN M) (h : candB M k j = true) : partI (xM M k j) = partI M := by
  obtain ⟨h1, h2, h3⟩ := (cand_t hw.w2 hj).mp h
  have hjk : j ≠ k := by
    rintro rfl
    rw [h2] at ho; cases ho
  have e1 := cnt_del (n := 2 * mN M) ho
  rw [if_pos hk] at e1
  have e2 : cnt (setE (setE (mO M) k false) j true) (2 * mN M) = cnt (setE (mO M) k false) (2 * mN M) + 1 := cnt_ins (by rw [setE_ne hjk]; exact h2) hj
  show (mN M : Int) - (cnt (setE (setE (mO M) k false) j true) (2 * mN M) : Int) = partI M
  unfold partI
  omega
/-- the fault behind an exchange -/
theorem ex_keep (hw : WF M) (hj : j < 2 * mN M) (h : candB M k j = true) (hs : side M k (mX M) = true) : exF M k j = faultI M (mX M) := by
  have hX : mX M < mN M := hw.2.2.2.2.2.1.1
  have hx := xM_wf hw hj h
  obtain ⟨V2, len2, prev2, h2⟩ := rt_ex hw.w2 hX
  obtain ⟨V3, len3, prev3, h3⟩ := rt_ex hx.w2 (r := mX M) hX
  have hc := side_t.mp hs
  have hk := way_keep (r := mE M) hw.1.1 hw.2.2.2.1 h2 h3 hx.2.2.2.1 (conn_sy hc)
  have hV : V2 (mE M) := (rt_conn h2).mpr (conn_mo del_mo (conn_sy hc))
  unfold exF faultI
  have e1 : wy (mC (xM M k j)) (mO (xM M k j)) (mX M) (mE (xM M k j)) = wy (mC M) (mO M) (mX M) (mE M) := by
    rw [wy_rt hw.1.1 hw.2.2.2.1 h2 hV, ← hk.2]
    exact wy_rt hw.1.1 hx.2.2.2.1 h3 hk.1
  rw [e1]; rfl
theorem ex_over (hw : WF M) (h1 : partI M = 1) (ho : mO M k = true) (hj : j < 2 * mN M) (h : candB M k j = true) (hs : side M k (mX M) = false) {p q : Nat} (hpq : (pA j = p ∧ pB (mC M) j = q) ∨ (pA j = q ∧ pB (mC M) j = p)) (hp : side M k p = true) (hq : side M k q = false) :
    exF M k j = (toneS M : Int) + sumL (gain M) (wy (mC M) (mO M) (mE M) p) + sumL (gain M) (wy (mC M) (mO M) (mX M) q) := by
  have hE : mE M < mN M := hw.2.2.2.2.1.1
  have hX : mX M < mN M := hw.2.2.2.2.2.1.1
  have hx := xM_wf hw hj h
  obtain ⟨c1, c2, c3⟩ := (cand_t hw.w2 hj).mp h
  have hl := nd_lt hw.1 hj (nd_vld c1)
  have hA : pA j < mN M := pA_lt hj
  have hpN : p < mN M := by rcases hpq with ⟨a, b⟩ | ⟨a, b⟩ <;> omega
  have hqN : q < mN M := by rcases hpq with ⟨a, b⟩ | ⟨a, b⟩ <;> omega
  obtain ⟨V, len, prev, hr⟩ := rt_ex hw.w2 hE
  obtain ⟨V2, len2, prev2, h2⟩ := rt_ex hw.w2 hX
  obtain ⟨V3, len3, prev3, h3⟩ := rt_ex hx.w2 (r := mX M) hX
  have hcp := side_t.mp hp
  have hnX : ¬ conn (mC M) (setE (mO M) k false) (mE M) (mX M) := fun z => by rw [side_t.mpr z] at hs; cases hs
  have hnq : ¬ conn (mC M) (setE (mO M) k false) (mE M) q := fun z => by rw [side_t.mpr z] at hq; cases hq
  have hXq := two_sides hw.2.2.2.1 ho (whole_all hw.w2 h1 hE hX) (whole_all hw.w2 h1 hE hqN) hnX hnq
  have hk := way_exch hw.1.1 hw.2.2.2.1 hr h2 h3 hpq hcp hXq hnX
  have hVp : V p := (rt_conn hr).mpr (whole_all hw.w2 h1 hE hpN)
  have hVq : V2 q := (rt_conn h2).mpr (whole_all hw.w2 h1 hX hqN)
  unfold exF faultI
  have e1 : wy (mC (xM M k j)) (mO (xM M k j)) (mX M) (mE (xM M k j)) = (wy (mC M) (mO M) (mE M) p).reverse ++ wy (mC M) (mO M) (mX M) q := by
    rw [wy_rt hw.1.1 hw.2.2.2.1 hr hVp, wy_rt hw.1.1 hw.2.2.2.1 h2 hVq, ← hk.2]
    exact wy_rt hw.1.1 hx.2.2.2.1 h3 hk.1
  rw [e1, sumL_app, sumL_rev]
  show (toneS M : Int) + (sumL (gain M) _ + sumL (gain M) _) = _
  omega
theorem exF_b (hw : WF M) (hj : j < 2 * mN M) (h : candB M k j = true) : 0 ≤ exF M k j ∧ exF M k j ≤ 324 := by
  have hx := xM_wf hw hj h
  exact fault_b hx.w2 hx.2.1 hw.2.2.2.2.2.1.1
def Tb (M : Mz) (t : Int × Int × Int) : Prop := t = (-1, -1, 1000000) ∨ ∃ k j : Nat, k < 2 * mN M ∧ j < 2 * mN M ∧ mO M k = true ∧ candB M k j = true ∧ t = ((k : Int), (j : Int), exF M k j)
theorem exj_T (hk : k < 2 * mN M) (ho : mO M k = true) {t : Int × Int × Int} (ht : Tb M t) : ∀ J, J ≤ 2 * mN M → Tb M (exj M k J t) := by
  intro J
  induction J with
  | zero => intro _; exact ht
  | succ J ih =>
    intro hJ
    simp only [exj]
    by_cases q : candB M k J = true ∧ exF M k J < (exj M k J t).2.2
    · rw [if_pos q]
      exact Or.inr ⟨k, J, hk, by omega, ho, q.1, rfl⟩
    · rw [if_neg q]; exact ih (by omega)
theorem exk_T : ∀ K, K ≤ 2 * mN M → Tb M (exk M K) := by
  intro K
  induction K with
  | zero => intro _; exact Or.inl rfl
  | succ K ih =>
    intro hK
    simp only [exk]
    by_cases q : mO M K = true
    · rw [if_pos q]; exact exj_T (by omega) q (ih (by omega)) _ (Nat.le_refl _)
    · rw [if_neg q]; exact ih (by omega)
theorem Tb_b (hw : WF M) {t : Int × Int × Int} (ht : Tb M t) : -1 ≤ t.1 ∧ t.1 < 72 ∧ -1 ≤ t.2.1 ∧ t.2.1 < 72 ∧ 0 ≤ t.2.2 ∧ t.2.2 ≤ 1000000 ∧ (t.2.1 = -1 → t = (-1, -1, 1000000)) ∧ (t.2.1 ≠ -1 → t.2.2 ≤ 324) := by
  have hN := dm_le hw.1
  rcases ht with rfl | ⟨k, j, h1, h2, h3, h4, rfl⟩
  · exact ⟨by decide, by decide, by decide, by decide, by decide, by decide, fun _ => rfl, fun z => absurd rfl z⟩
  · have := exF_b hw h2 h4
    refine ⟨?_, ?_, ?_, ?_, this.1, ?_, fun z => ?_, fun _ => this.2⟩
    · show -1 ≤ (k : Int); omega
    · show (k : Int) < 72; omega
    · show -1 ≤ (j : Int); omega
    · show (j : Int) < 72; omega
    · show exF M k j ≤ 1000000; omega
    · have z : (j : Int) = -1 := z
      omega
theorem exj_f (hw : WF M) (hk : k < 2 * mN M) (ho : mO M k = true) {t : Int × Int × Int} (ht : Tb M t) : ∀ J, J ≤ 2 * mN M → (t.2.1 ≠ -1 ∨ ∃ j, j < J ∧ candB M k j = true) → (exj M k J t).2.1 ≠ -1 := by
  intro J
  induction J with
  | zero =>
    rintro _ (h | ⟨j, hj, _⟩)
    · exact h
    · omega
  | succ J ih =>
    intro hJ h
    have hT := Tb_b hw (exj_T hk ho ht J (by omega))
    simp only [exj]
    by_cases q : candB M k J = true ∧ exF M k J < (exj M k J t).2.2
    · rw [if_pos q]
      show (J : Int) ≠ -1
      omega
    · rw [if_neg q]
      intro z
      have e := hT.2.2.2.2.2.2.1 z
      have hno : ¬ candB M k J = true := by
        intro hc
        apply q
        refine ⟨hc, ?_⟩
        rw [e]
        have := (exF_b hw (by omega) hc).2
        show exF M k J < 1000000
        omega
      refine ih (by omega) ?_ z
      rcases h with h | ⟨j, hj, hc⟩
      · exact Or.inl h
      · refine Or.inr ⟨j, ?_, hc⟩
        by_cases e2 : j = J
        · subst e2; exact absurd hc hno
        · omega
theorem exk_f (hw : WF M) : ∀ K, K ≤ 2 * mN M → (∃ k j, k < K ∧ j < 2 * mN M ∧ mO M k = true ∧ candB M k j = true) → (exk M K).2.1 ≠ -1 := by
  intro K
  induction K with
  | zero => rintro _ ⟨k, j, hk, _⟩; omega
  | succ K ih =>
    rintro hK ⟨k, j, hk, hj, ho, hc⟩
    simp only [exk]
    have hT := exk_T (M := M) K (by omega)
    by_cases e : k = K
    · subst e
      rw [if_pos ho]
      exact exj_f hw (by omega) ho hT _ (Nat.le_refl _) (Or.inr ⟨j, hj, hc⟩)
    · have hi := ih (by omega) ⟨k, j, by omega, hj, ho, hc⟩
      by_cases q : mO M K = true
      · rw [if_pos q]
        exact exj_f hw (by omega) q hT _ (Nat.le_refl _) (Or.inl hi)
      · rw [if_neg q]; exact hi
/-- a whole maze has an exchange -/
theorem ex_some (hw : WF M) (h1 : partI M = 1) : ∃ k j, k < 2 * mN M ∧ j < 2 * mN M ∧ mO M k = true ∧ candB M k j = true := by
  have hN := dm_le hw.1
  have hE : mE M < mN M := hw.2.2.2.2.1.1
  have hCN : mC M + 1 < mN M := by
    have h2 : mC M * 2 ≤ mC M * mR M := Nat.mul_le_mul_left _ hN.2.2.1
    rw [hN.2.2.2.2.2.2.2] at h2
    omega
  -- one of four places around a square is shut
  have hsq : ∃ j, vld (mC M) (mN M) j ∧ mO M j = false := by
    apply Classical.byContradiction
    intro hn
    have hall : ∀ j, vld (mC M) (mN M) j → mO M j = true := by
      intro j hj
      cases ho : mO M j with
      | true => rfl
      | false => exact absurd ⟨j, hj, ho⟩ hn
    have v0 : vld (mC M) (mN M) 0 := by
      unfold vld
      rw [if_pos (by omega), Nat.zero_div, Nat.zero_mod]
      exact ⟨by omega, by omega⟩
    have v1 : vld (mC M) (mN M) 1 := by
      unfold vld
      rw [if_neg (by omega)]
      exact ⟨by omega, by omega⟩
    have v3 : vld (mC M) (mN M) 3 := by
      unfold vld
      rw [if_neg (by omega)]
      exact ⟨by omega, by omega⟩
    have v2 : vld (mC M) (mN M) (2 * mC M) := by
      unfold vld
      rw [if_pos (by omega), show 2 * mC M / 2 = mC M by omega, Nat.mod_self]
      exact ⟨by omega, by omega⟩
    have hF := hw.2.2.2.1 0 (hall 0 v0)
    apply hF
    have ad : ∀ j, j ≠ 0 → vld (mC M) (mN M) j → conn (mC M) (setE (mO M) 0 false) (pA j) (pB (mC M) j) := fun j hj hv => conn_ad (adj_k (by rw [setE_ne hj]; exact hall j hv))
    have a1 := ad 1 (by omega) v1
    have a3 := ad 3 (by omega) v3
    have a2 := ad (2 * mC M) (by omega) v2
    have e1 : pA 1 = 0 := rfl
    have e2 : pB (mC M) 1 = mC M := by unfold pB; rw [if_neg (by omega)]; omega
    have e3 : pA 3 = 1 := rfl
    have e4 : pB (mC M) 3 = mC M + 1 := by unfold pB; rw [if_neg (by omega)]; omega
    have e5 : pA (2 * mC M) = mC M := by unfold pA; omega
    have e6 : pB (mC M) (2 * mC M) = mC M + 1 := by unfold pB; rw [if_pos (by omega)]; omega
    have e7 : pA 0 = 0 := rfl
    have e8 : pB (mC M) 0 = 1 := rfl
    rw [e1, e2] at a1
    rw [e3, e4] at a3
    rw [e5, e6] at a2
    rw [e7, e8]
    exact conn_tr a1 (conn_tr a2 (conn_sy a3))
  obtain ⟨j, hv, hj⟩ := hsq
  have hl := nd_lt hw.1 hv.1 (nd_vld hv)
  have hA : pA j < mN M := pA_lt hv.1
  have hab : pA j ≠ pB (mC M) j := by unfold pA pB; split <;> omega
  obtain ⟨V, len, prev, hr⟩ := rt_ex hw.w2 (r := pB (mC M) j) hl.1
  have hVa : V (pA j) := (rt_conn hr).mpr (whole_all hw.w2 h1 hl.1 hA)
  obtain ⟨p1, ⟨k, hk1, hk2⟩, p3⟩ := hr.2.2.1 _ hVa hab
  have hkv := hw.2.2.1 k hk1
  refine ⟨k, j, hkv.1, hv.1, hk1, (cand_t hw.w2 hv.1).mpr ⟨hv, hj, ?_⟩⟩
  have hcs := cut_side hw.1.1 hw.2.2.2.1 hr hk1 hab hVa (by
    rcases hk2 with ⟨a, b⟩ | ⟨a, b⟩
    · exact Or.inr ⟨a, b⟩
    · exact Or.inl ⟨a, b⟩) hVa
  have hnc := hcs.mp (by cases len (pA j) <;> simp [pth])
  intro hs
  cases hsa : side M k (pA j) with
  | true =>
    have z1 := side_t.mp hsa
    have z2 := side_t.mp (hs ▸ hsa)
    exact hnc (conn_tr (conn_sy z2) z1)
  | false =>
    have z1 : ¬ conn (mC M) (setE (mO M) k false) (mE M) (pA j) := fun z => by rw [side_t.mpr z] at hsa; cases hsa
    have z2 : ¬ conn (mC M) (setE (mO M) k false) (mE M) (pB (mC M) j) := fun z => by
      have := side_t.mpr z
      rw [← hs, hsa] at this; cases this
    exact hnc (two_sides hw.2.2.2.1 hk1 (whole_all hw.w2 h1 hE hl.1) (whole_all hw.w2 h1 hE hA) z2 z1)
theorem exT_found (hw : WF M) (h1 : partI M = 1) : ∃ k j : Nat, k < 2 * mN M ∧ j < 2 * mN M ∧ mO M k = true ∧ candB M k j = true ∧ exT M = ((k : Int), (j : Int), exF M k j) := by
  have hf := exk_f hw (2 * mN M) (Nat.le_refl _) (ex_some hw h1)
  rcases exk_T (M := M) (2 * mN M) (Nat.le_refl _) with e | ⟨k, j, g1, g2, g3, g4, g5⟩
  · rw [e] at hf
    exact absurd rfl hf
  · exact ⟨k, j, g1, g2, g3, g4, g5⟩
/-- the reference's side: the cells that stay with the low end -/
theorem here_cand (hw : WF M) (h1 : partI M = 1) (hk : k < 2 * mN M) (ho : mO M k = true) (hj : j < 2 * mN M) {o : Nat} (hn : nd (mC M) (mN M) j = some o) :
    (j ≠ k ∧ decide (0 ≤ dst (mC M) (setE (mO M) k false) (pA k) (pA j)) ≠ decide (0 ≤ dst (mC M) (setE (mO M) k false) (pA k) o)) ↔ candB M k j = true := by
  obtain ⟨n1, n2, n3⟩ := nd_lt hw.1 hj hn
  have hE : mE M < mN M := hw.2.2.2.2.1.1
  have hA : pA j < mN M := pA_lt hj
  have hkA : pA k < mN M := pA_lt hk
  have hF := hw.2.2.2.1 k ho
  have hop : setE (setE (mO M) k false) k true = mO M := by rw [setE_setE, setE_id ho]
  -- whether a cell stays with the low end, by the side of the entry
  have hx : ∀ x, x < mN M → (conn (mC M) (setE (mO M) k false) (pA k) x ∨ conn (mC M) (setE (mO M) k false) (pB (mC M) k) x) := by
    intro x hxN
    have := whole_all hw.w2 h1 hkA hxN
    rw [← hop] at this
    rcases conn_ins this with a | ⟨a, b⟩ | ⟨a, b⟩
    · exact Or.inl a
    · exact Or.inr b
    · exact Or.inl b
  have key : (decide (0 ≤ dst (mC M) (setE (mO M) k false) (pA k) (pA j)) ≠ decide (0 ≤ dst (mC M) (setE (mO M) k false) (pA k) o)) ↔ side M k (pA j) ≠ side M k o := by
    have hd : ∀ x, decide (0 ≤ dst (mC M) (setE (mO M) k false) (pA k) x) = true ↔ conn (mC M) (setE (mO M) k false) (pA k) x := fun x => by rw [decide_eq_true_iff, dst_c]
    have hne : ∀ a b : Bool, a ≠ b ↔ ¬ (a = true ↔ b = true) := by decide
    rw [hne, hne, hd, hd, side_t, side_t]
    rcases hx (mE M) hE with he | he
    · constructor
      · intro z q
        apply z
        exact ⟨fun y => conn_tr he (q.mp (conn_tr (conn_sy he) y)), fun y => conn_tr he (q.mpr (conn_tr (conn_sy he) y))⟩
      · intro z q
        apply z
        exact ⟨fun y => conn_tr (conn_sy he) (q.mp (conn_tr he y)), fun y => conn_tr (conn_sy he) (q.mpr (conn_tr he y))⟩
    · have hflip : ∀ x, x < mN M → (conn (mC M) (setE (mO M) k false) (mE M) x ↔ ¬ conn (mC M) (setE (mO M) k false) (pA k) x) := by
        intro x hxN
        constructor
        · intro y z
          exact hF (conn_tr z (conn_sy (conn_tr he y)))
        · intro y
          rcases hx x hxN with a | a
          · exact absurd a y
          · exact conn_tr (conn_sy he) a
      rw [hflip _ hA, hflip o n1]
      exact not_congr (by
        constructor
        · intro q; exact not_congr q
        · intro q
          exact ⟨fun y => Classical.byContradiction fun z => (q.mpr z) y, fun y => Classical.byContradiction fun z => (q.mp z) y⟩)
  rw [cand_t hw.w2 hj, key, n3]
  constructor
  · rintro ⟨a, b⟩
    refine ⟨n2, ?_, b⟩
    cases hoj : mO M j with
    | false => rfl
    | true =>
      exfalso
      apply b
      have : conn (mC M) (setE (mO M) k false) (pA j) o := by
        rw [← n3]
        exact conn_ad (adj_k (by rw [setE_ne a]; exact hoj))
      rw [Bool.eq_iff_iff, side_t, side_t]
      exact ⟨fun z => conn_tr z this, fun z => conn_tr z (conn_sy this)⟩
  · rintro ⟨a, b, c⟩
    refine ⟨?_, c⟩
    rintro rfl
    rw [b] at ho; cases ho
end EX
