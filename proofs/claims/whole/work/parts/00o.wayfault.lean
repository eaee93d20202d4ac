/-! WAY FAULTS and what both sides answer of the way -/
noncomputable def faultI (M : Mz) (x : Nat) : Int := (toneS M : Int) + sumL (gain M) (wy (mC M) (mO M) x (mE M))
theorem sumN_b {f : Nat → Int} {n : Nat} {b : Int} (h : ∀ c, c < n → 0 ≤ f c ∧ f c ≤ b) : 0 ≤ sumN f n ∧ sumN f n ≤ b * n := by
  induction n with
  | zero => simp [sumN]
  | succ n ih =>
    simp only [sumN]
    have h1 := ih (fun c hc => h c (by omega))
    have h2 := h n (by omega)
    have e : b * ((n + 1 : Nat) : Int) = b * n + b := by rw [Int.natCast_add, Int.mul_add]; simp
    rw [e]
    omega
section WF8
variable {v : MZ} {w : WY} {s : nF} {M : Mz} {c d F n i r x : Nat} {a : Int}
theorem wy_N (hw : WF2 M) (hr : r < mN M) : ∀ y ∈ wy (mC M) (mO M) r c, y < mN M := by
  intro y hy
  by_cases h : conn (mC M) (mO M) r c
  · obtain ⟨h1, h2, h3, h4⟩ := wy_spec h
    have h5 := wk_conn h1 h3 hy
    exact conn_N hw (conn_tr h h5) hr
  · rw [wy_no h] at hy
    cases hy
theorem wy_nd : (wy (mC M) (mO M) r c).Nodup := by
  by_cases h : conn (mC M) (mO M) r c
  · exact (wy_spec h).2.1
  · rw [wy_no h]; exact List.nodup_nil
theorem fault_sum (hw : WF2 M) (hx : x < mN M) : sumN (fun c => if c ∈ wy (mC M) (mO M) x (mE M) then 9 - (mT M c : Int) else (mT M c : Int)) (mN M) = faultI M x := by
  unfold faultI toneS
  rw [← sN_cast, ← sumL_N (wy_nd (M := M)) (wy_N hw hx), ← sumN_add]
  refine sumN_congr (fun c _ => ?_)
  by_cases h : c ∈ wy (mC M) (mO M) x (mE M)
  · rw [if_pos h, if_pos h]; unfold gain; omega
  · rw [if_neg h, if_neg h]; omega
theorem fault_b (hw : WF2 M) (ht : ∀ c, c < mN M → mT M c ≤ 9) (hx : x < mN M) : 0 ≤ faultI M x ∧ faultI M x ≤ 324 := by
  have hN := dm_le hw.1
  rw [← fault_sum hw hx]
  have := sumN_b (f := fun c => if c ∈ wy (mC M) (mO M) x (mE M) then 9 - (mT M c : Int) else (mT M c : Int)) (n := mN M) (b := 9) (fun c hc => by
    have := ht c hc
    show 0 ≤ (if c ∈ wy (mC M) (mO M) x (mE M) then 9 - (mT M c : Int) else (mT M c : Int)) ∧ (if c ∈ wy (mC M) (mO M) x (mE M) then 9 - (mT M c : Int) else (mT M c : Int)) ≤ 9
    split <;> omega)
  omega
theorem b01_0 {b : Bool} : (jI (b01 b : Nat) = 0) = (b = false) := by cases b <;> decide +kernel
theorem faultTo8 {f0 q0 o0 st0 : nF} {wc tu : Int32} (hF : 36 < F) (h : R8 s M) (hw : WF2 M) (hx : x < mN M) (hE : mE M < mN M) : ∃ z, mX8_faultTo F s f0 q0 o0 st0 wc tu (jI (x : Nat)) = some z ∧ z.1 = jI (faultI M x) := by
  have hN := dm_le hw.1
  obtain ⟨z, z1, z2, z3, z4, z5, z6⟩ := findsWay8 (f0 := f0) (q0 := q0) (o0 := o0) (st0 := st0) (wc := wc) (tu := tu) hF h hw hx hE
  unfold mX8_faultTo
  rw [z1, bnd_s]
  have := lpr_fn (L := mX8_faultTo_L11 s z) (e := some (jI (faultI M x), z.2.1, z.2.2.1, z.2.2.2.1, z.2.2.2.2.1, z.2.2.2.2.2.1, z.2.2.2.2.2.2)) (F := F) (fun i => (jI (sumN (fun c => if c ∈ wy (mC M) (mO M) x (mE M) then 9 - (mT M c : Int) else (mT M c : Int)) i), jI (i : Nat))) (mN M) (by
    intro i hi self
    simp only [mX8_faultTo_L11, cells8 h, bnd_s, jn_e]
    rw [nle_f hi (by omega), gdi (by omega) (by omega), jcl _ (by omega), z3 i hi, j6p, gdi (by omega) (by omega), gdi (by omega) (by omega), jcl _ (by omega), h.2.2.2.2.2.2.1 i hi, jS]
    by_cases q : i ∈ wy (mC M) (mO M) x (mE M)
    · rw [if_neg (by rw [b01_0, decide_eq_true q]; exact Bool.noConfusion), j_9, jI_sub, jI_add]
      simp only [sumN, if_pos q]
    · rw [if_pos (by rw [b01_0, decide_eq_false q]), jI_add]
      simp only [sumN, if_neg q]) (by
    intro self
    simp only [mX8_faultTo_L11, cells8 h, bnd_s]
    rw [nle_t (Nat.le_refl _) (by omega), fault_sum hw hx]) (by omega)
  refine ⟨(jI (faultI M x), z.2.1, z.2.2.1, z.2.2.2.1, z.2.2.2.2.1, z.2.2.2.2.2.1, z.2.2.2.2.2.2), ?_, rfl⟩
  rw [← this]; rfl
theorem wayFault8 {f0 q0 o0 st0 : nF} {wc tu : Int32} (hF : 36 < F) (h : R8 s M) (hw : WF2 M) (hX : mX M < mN M) (hE : mE M < mN M) : ∃ z, mX8_wayFault F s f0 q0 o0 st0 wc tu = some z ∧ z.1 = jI (faultI M (mX M)) := by
  obtain ⟨z, z1, z2⟩ := faultTo8 (f0 := f0) (q0 := q0) (o0 := o0) (st0 := st0) (wc := wc) (tu := tu) hF h hw hX hE
  unfold mX8_wayFault
  rw [gl4, cl4, h.2.2.2.2.1, z1, bnd_s]
  exact ⟨_, rfl, z2⟩
theorem entry3 (h : R3 v M) : mX3_entryCell v = some (jI (mE M : Nat)) := by
  unfold mX3_entryCell
  rw [jl_0, at_i (by omega) (by omega), bnd_s, h.2.2.2.2.1]
theorem exit3 (h : R3 v M) : mX3_exitCell v = some (jI (mX M : Nat)) := by
  unfold mX3_exitCell
  rw [jl_1, at_i (by omega) (by omega), bnd_s, h.2.2.2.2.2.1]
theorem wq_len (hw : WF2 M) (hr : r < mN M) (hc : c < mN M) (hq : WQ M r w) : mX6_lengthTo w (jI (c : Nat)) = some (jI (dst (mC M) (mO M) r c)) := by
  have hN := dm_le hw.1
  obtain ⟨n, ord, prev, len, -, -, -, -, q, -⟩ := hq
  rw [lengthTo3 (by omega), q c hc]
theorem wq_reach (hw : WF2 M) (hr : r < mN M) (hc : c < mN M) (hq : WQ M r w) : mX6_reach w (jI (c : Nat)) = some (bI (decide (0 ≤ dst (mC M) (mO M) r c))) := by
  have hN := dm_le hw.1
  obtain ⟨n, ord, prev, len, -, -, -, -, q, -⟩ := hq
  rw [reach3 (by omega) (dst_b hw hr hc) (q c hc)]
  have := dst_ge (C := mC M) (op := mO M) (r := r) (c := c)
  congr 2
  exact decide_eq_decide.mpr (by omega)
theorem hasWay3 (hF : 36 < F) (h : R3 v M) (hw : WF2 M) (hX : mX M < mN M) (hE : mE M < mN M) : ∃ w', mX7_hasWay F v w = some (bI (decide (0 ≤ dst (mC M) (mO M) (mX M) (mE M))), w') ∧ WQ M (mX M) w' := by
  obtain ⟨w', w1, w2⟩ := findFrom3 (w := w) hF h hw hX
  unfold mX7_hasWay
  rw [exit3 h, bnd_s, w1, bnd_s, entry3 h, bnd_s, wq_reach hw hX hE w2, bnd_s, gzb]
  exact ⟨_, rfl, w2⟩
theorem wq_gain (hw : WF2 M) (hc : c < mN M) (hq : WQ M r w) (hcn : conn (mC M) (mO M) r c) : mX7_at 36 w.2.2.2.2 (jI (c : Nat)) = some (jI (sumL (gain M) (wy (mC M) (mO M) r c))) := by
  have hN := dm_le hw.1
  obtain ⟨n, ord, prev, len, -, -, -, -, -, q⟩ := hq
  rw [at_i (by omega) (by omega), q c hc hcn]
theorem wayFault3 (hF : 36 < F) (h : R3 v M) (hw : WF2 M) (hX : mX M < mN M) (hE : mE M < mN M) : ∃ w', mX7_wayFault F v w = some (jI (faultI M (mX M)), w') := by
  obtain ⟨w', w1, w2⟩ := hasWay3 (w := w) hF h hw hX hE
  unfold mX7_wayFault
  rw [toneSum3 hF h hw.1, bnd_s, w1, bnd_s]
  simp only [jn_e, ifb]
  by_cases q : 0 ≤ dst (mC M) (mO M) (mX M) (mE M)
  · rw [if_pos (decide_eq_true q), entry3 h, bnd_s, wq_gain hw hE w2 (dst_c.mp q), bnd_s, jI_add]
    exact ⟨_, rfl⟩
  · rw [if_neg (by rw [decide_eq_false q]; exact Bool.noConfusion)]
    refine ⟨w', ?_⟩
    unfold faultI
    rw [wy_no (fun z => q (dst_c.mpr z))]
    simp [sumL]
/-- what way answers -/
noncomputable def wayA (M : Mz) (a : Int) : Int := if a < 0 then -1 else if a < ((wy (mC M) (mO M) (mX M) (mE M)).length : Int) then (nth (wy (mC M) (mO M) (mX M) (mE M)) a.toNat : Int) else -4
theorem wq_prev (hw : WF2 M) (hq : WQ M r w) : ∃ V len prev, RT (mC M) (mO M) r V len prev ∧ ∀ c, V c → c ≠ r → w.2.2.1 c = jI (prev c : Nat) := by
  obtain ⟨n, ord, prev, len, hS, -, -, q, -, -⟩ := hq
  refine ⟨_, _, _, ss_rt hS, ?_⟩
  rintro c ⟨k, hk, rfl⟩ hne
  refine q k ?_ hk
  rcases Nat.eq_zero_or_pos k with rfl | z
  · exact absurd hS.2.2.1 hne
  · exact z
theorem way3 (hF : 36 < F) (h : R3 v M) (hw : WF2 M) (hX : mX M < mN M) (hE : mE M < mN M) (hb : -2147483648 ≤ a ∧ a < 2147483648) : ∃ w', mX7_way F v w (jI a) = some (jI (wayA M a), w') := by
  have hN := dm_le hw.1
  unfold mX7_way wayA
  by_cases h0 : a < 0
  · rw [j_0, jle_f (by omega) hb h0, if_pos h0]
    exact ⟨_, rfl⟩
  · rw [j_0, jle_t (by omega) hb (by omega), if_neg h0]
    obtain ⟨w', w1, w2⟩ := findFrom3 (w := w) hF h hw hX
    rw [exit3 h, bnd_s, w1, bnd_s, entry3 h, bnd_s, wq_len hw hX hE w2, bnd_s]
    have b1 := dst_b hw hX hE
    have b2 := dst_lt hw hX hE
    have hdl : ((wy (mC M) (mO M) (mX M) (mE M)).length : Int) = dst (mC M) (mO M) (mX M) (mE M) + 1 := by unfold dst; omega
    by_cases h1 : a ≤ dst (mC M) (mO M) (mX M) (mE M)
    · rw [jle_t hb b1 h1, if_pos (by omega), bnd_s]
      have hcn := dst_c.mp (show 0 ≤ dst (mC M) (mO M) (mX M) (mE M) by omega)
      obtain ⟨V, len, prev, hrt, hpv⟩ := wq_prev hw w2
      have hV := (rt_conn hrt).mpr hcn
      have hdE := dst_rt hw.1.1 hw.2.2 hrt hV
      have hwy := wy_rt hw.1.1 hw.2.2 hrt hV
      have ha : a = ((a.toNat : Nat) : Int) := by omega
      have := lpr_fn (L := mX7_way_L55 (jI a) w') (e := some (jI (itr prev a.toNat (mE M) : Nat), w')) (F := F) (fun i => (jI (itr prev i (mE M) : Nat), jI (i : Nat))) a.toNat (by
        intro i hi self
        obtain ⟨hVi, hli⟩ := itr_rt hrt hV i (by omega)
        have hiN := conn_N hw ((rt_conn hrt).mp hVi) hX
        simp only [mX7_way_L55]
        rw [ha, nle_f (by omega) (by omega), at_i (by omega) (by omega), bnd_s, hpv _ hVi (by intro e; rw [e, hrt.2.1] at hli; omega), jS, itr_S]) (by
        intro self
        simp only [mX7_way_L55]
        rw [ha, nle_t (by omega) (by omega)]) (by omega)
      refine ⟨w', ?_⟩
      rw [hwy, nth_pth _ _ _ (by omega), ← this]
      rfl
    · rw [jle_f hb b1 (by omega), if_neg (by omega)]
      exact ⟨_, rfl⟩
theorem way8 {f0 q0 o0 st0 : nF} {wc tu : Int32} (hF : 36 < F) (h : R8 s M) (hw : WF2 M) (hX : mX M < mN M) (hE : mE M < mN M) (hb : -2147483648 ≤ a ∧ a < 2147483648) : ∃ z, mX8_way F s f0 q0 o0 st0 wc tu (jI a) = some (jI (wayA M a), z) := by
  have hN := dm_le hw.1
  unfold mX8_way wayA
  by_cases h0 : a < 0
  · rw [j_0, jle_f (by omega) hb h0, if_pos h0]
    exact ⟨_, rfl⟩
  · rw [j_0, jle_t (by omega) hb (by omega), if_neg h0]
    obtain ⟨z, z1, z2, z3, z4, z5, z6⟩ := findsWay8 (f0 := f0) (q0 := q0) (o0 := o0) (st0 := st0) (wc := wc) (tu := tu) hF h hw hX hE
    rw [gl4, cl4, h.2.2.2.2.1, z1, bnd_s]
    simp only [jn_e, z2, ← j_0, ifb, z5]
    have b1 := dst_b hw hX hE
    have b2 := dst_lt hw hX hE
    have hdl : ((wy (mC M) (mO M) (mX M) (mE M)).length : Int) = dst (mC M) (mO M) (mX M) (mE M) + 1 := by unfold dst; omega
    by_cases h1 : 0 ≤ dst (mC M) (mO M) (mX M) (mE M)
    · rw [if_pos (decide_eq_true h1)]
      by_cases h2 : a < ((wy (mC M) (mO M) (mX M) (mE M)).length : Int)
      · rw [jle_f (by omega) hb h2, if_pos h2]
        have ha : a = ((a.toNat : Nat) : Int) := by omega
        rw [ha, gdi (by omega) (by omega), jcl _ (by omega), z4 _ (by omega), ← ha]
        exact ⟨_, rfl⟩
      · rw [jle_t (by omega) hb (by omega), if_neg h2]
        exact ⟨_, rfl⟩
    · rw [if_neg (by rw [decide_eq_false h1]; exact Bool.noConfusion), if_neg (by omega)]
      exact ⟨_, rfl⟩
/-- the turns of the way -/
theorem wayTurns3 (hF : 36 < F) (h : R3 v M) (hw : WF2 M) (hX : mX M < mN M) (hE : mE M < mN M) (hq : WQ M (mX M) w) (hcn : conn (mC M) (mO M) (mX M) (mE M)) : mX7_wayTurns F v w = some (jI (turnsOf (wy (mC M) (mO M) (mX M) (mE M)) : Nat)) := by
  have hN := dm_le hw.1
  unfold mX7_wayTurns
  rw [entry3 h, bnd_s, wq_len hw hX hE hq, bnd_s]
  obtain ⟨V, len, prev, hrt, hpv⟩ := wq_prev hw hq
  have hV := (rt_conn hrt).mpr hcn
  have hdE := dst_rt hw.1.1 hw.2.2 hrt hV
  have hwy := wy_rt hw.1.1 hw.2.2 hrt hV
  have b2 := dst_lt hw hX hE
  rw [hdE]
  have := lpr_fn (L := mX7_wayTurns_L25 w (jI (len (mE M) : Nat))) (e := some (jI (turnsOf (wy (mC M) (mO M) (mX M) (mE M)) : Nat))) (F := F) (fun i => (jI (itr prev i (mE M) : Nat), jI (tcn (fun k => (itr prev (k + 1) (mE M) : Int) - (itr prev k (mE M) : Int)) i : Nat), (if i = 0 then (0 : Int32) else jI ((itr prev (i - 1 + 1) (mE M) : Int) - (itr prev (i - 1) (mE M) : Int))), jI (i : Nat))) (len (mE M)) (by
    intro i hi self
    obtain ⟨hVi, hli⟩ := itr_rt hrt hV i (by omega)
    have hiN := conn_N hw ((rt_conn hrt).mp hVi) hX
    obtain ⟨hVj, hlj⟩ := itr_rt hrt hV (i + 1) (by omega)
    have hjN := conn_N hw ((rt_conn hrt).mp hVj) hX
    simp only [mX7_wayTurns_L25]
    rw [nle_f hi (by omega), at_i (by omega) (by omega), bnd_s, hpv _ hVi (by intro e; rw [e, hrt.2.1] at hli; omega), ← itr_S (prev := prev)]
    simp only [jn_e, jS, jI_sub]
    rw [if_neg (show ¬ i + 1 = 0 by omega), show i + 1 - 1 = i by omega]
    show _ = self (jI (itr prev (i + 1) (mE M) : Nat), jI (tcn (fun k => (itr prev (k + 1) (mE M) : Int) - (itr prev k (mE M) : Int)) i + (if 0 < i ∧ ((itr prev (i + 1) (mE M) : Int) - (itr prev i (mE M) : Int)) ≠ ((itr prev (i - 1 + 1) (mE M) : Int) - (itr prev (i - 1) (mE M) : Int)) then 1 else 0) : Nat), _, _)
    by_cases e : i = 0
    · subst e
      rw [if_pos (by rw [nle0 (by omega)]), if_neg (by omega)]
      rfl
    · rw [if_neg (by rw [nle0 (by omega)]; exact e), if_neg e]
      obtain ⟨hVk, hlk⟩ := itr_rt hrt hV (i - 1 + 1) (by omega)
      have hkN := conn_N hw ((rt_conn hrt).mp hVk) hX
      obtain ⟨hVm, hlm⟩ := itr_rt hrt hV (i - 1) (by omega)
      have hmN := conn_N hw ((rt_conn hrt).mp hVm) hX
      by_cases q : ((itr prev (i + 1) (mE M) : Int) - (itr prev i (mE M) : Int)) = ((itr prev (i - 1 + 1) (mE M) : Int) - (itr prev (i - 1) (mE M) : Int))
      · rw [jeq_t q, if_neg (fun z => z.2 q)]
        rfl
      · rw [jeq_f (by omega) (by omega) q, if_pos ⟨by omega, q⟩]) (by
    intro self
    simp only [mX7_wayTurns_L25]
    rw [nle_t (Nat.le_refl _) (by omega), hwy]
    unfold turnsOf
    rw [pth_len]
    congr 3
    refine tcn_congr (fun k hk => ?_)
    rw [nth_pth _ _ _ (by omega), nth_pth _ _ _ (by omega)]) (by omega)
  rw [← this]
  rfl
end WF8
