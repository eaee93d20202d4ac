/-! PARTS AND DISTANCES: on the way, the cells of a part, its lowest cell, between, the farthest cells -/
def lowF (f : Nat → Bool) : Nat → Nat
  | 0 => 0
  | n + 1 => if lowF f n < n then lowF f n else if f n = true then n else n + 1
theorem lowF_spec {f : Nat → Bool} : ∀ n, (lowF f n < n → f (lowF f n) = true) ∧ lowF f n ≤ n ∧ ∀ c, c < lowF f n → f c = false := by
  intro n
  induction n with
  | zero => exact ⟨fun h => absurd h (Nat.lt_irrefl 0), Nat.le_refl 0, fun c hc => absurd hc (Nat.not_lt_zero c)⟩
  | succ n ih =>
    obtain ⟨h1, h2, h3⟩ := ih
    by_cases e : lowF f n < n
    · have : lowF f (n + 1) = lowF f n := by simp only [lowF, if_pos e]
      rw [this]
      exact ⟨fun _ => h1 e, by omega, h3⟩
    · have en : lowF f n = n := by omega
      rw [en] at h3
      by_cases q : f n = true
      · have : lowF f (n + 1) = n := by simp only [lowF, if_neg e, if_pos q]
        rw [this]
        exact ⟨fun _ => q, by omega, h3⟩
      · have : lowF f (n + 1) = n + 1 := by simp only [lowF, if_neg e, if_neg q]
        rw [this]
        refine ⟨fun z => by omega, by omega, fun c hc => ?_⟩
        by_cases z : c = n
        · subst z; simpa using q
        · exact h3 c (by omega)
theorem lowF_eq {f : Nat → Bool} {n l : Nat} (h1 : l < n) (h2 : f l = true) (h3 : ∀ c, c < n → f c = true → l ≤ c) : lowF f n = l := by
  obtain ⟨g1, g2, g3⟩ := lowF_spec (f := f) n
  by_cases e : lowF f n < n
  · have a := h3 _ e (g1 e)
    by_cases q : l < lowF f n
    · rw [g3 l q] at h2; cases h2
    · omega
  · have := g3 l (by omega)
    rw [this] at h2; cases h2
theorem ind_sum {N : Nat} {ord : Nat → Nat} : ∀ (n : Nat) (f : Nat → Nat), (∀ k, k < n → ord k < N) → (∀ j k, j < n → k < n → ord j = ord k → j = k) → (∀ c, c < N → (Vs n ord c → f c = 1) ∧ (¬ Vs n ord c → f c = 0)) → sN f N = n := by
  intro n
  induction n with
  | zero =>
    intro f _ _ h
    rw [sN_congr (g := fun _ => 0) (fun c hc => (h c hc).2 (fun ⟨k, hk, _⟩ => by omega))]
    have : ∀ m, sN (fun _ => 0) m = 0 := by
      intro m
      induction m with
      | zero => rfl
      | succ m ih => simp only [sN, ih]
    exact this N
  | succ n ih =>
    intro f h1 h2 h3
    have hn := h1 n (by omega)
    have e := ih (fun c => if c = ord n then 0 else f c) (fun k hk => h1 k (by omega)) (fun j k hj hk => h2 j k (by omega) (by omega)) (fun c hc => by
      show (Vs n ord c → (if c = ord n then 0 else f c) = 1) ∧ (¬ Vs n ord c → (if c = ord n then 0 else f c) = 0)
      by_cases q : c = ord n
      · rw [if_pos q]
        refine ⟨fun ⟨k, hk, hkc⟩ => ?_, fun _ => rfl⟩
        have := h2 k n (by omega) (by omega) (by rw [hkc, q])
        omega
      · rw [if_neg q]
        refine ⟨fun ⟨k, hk, hkc⟩ => (h3 c hc).1 ⟨k, by omega, hkc⟩, fun z => (h3 c hc).2 (fun ⟨k, hk, hkc⟩ => ?_)⟩
        by_cases y : k = n
        · subst y; exact q hkc.symm
        · exact z ⟨k, by omega, hkc⟩)
    have e2 : sN f N = sN (fun c => (if c = ord n then 0 else f c) + (if c = ord n then 1 else 0)) N := sN_congr (fun c hc => by
      by_cases q : c = ord n
      · rw [if_pos q, if_pos q, (h3 c hc).1 ⟨n, by omega, q.symm⟩]
      · rw [if_neg q, if_neg q]; rfl)
    rw [e2, sN_add, e, sN_one, if_pos hn]
section PD
variable {v : MZ} {w w1 w2 : WY} {s : nF} {M : Mz} {c d F n i r x : Nat} {a b : Int}
noncomputable def joined (M : Mz) (r : Nat) : Nat → Bool := fun c => decide (0 ≤ dst (mC M) (mO M) r c)
theorem lowest3 (hF : 36 < F) (hw : WF2 M) (hr : r < mN M) (hq : WQ M r w) : mX6_lowestCell F w = some (jI (lowF (joined M r) (mN M) : Nat)) := by
  have hN := dm_le hw.1
  obtain ⟨n, ord, prev, len, hS, h1, h2, -⟩ := hq
  have hn := ss_n hS
  have hrt := ss_rt hS
  unfold mX6_lowestCell
  rw [jl_0, at_i (by omega) (by omega), bnd_s, h2 0 hS.1]
  have key := lpr_r (Q := fun z : Int32 => z = jI (lowF (joined M r) (mN M) : Nat)) (L := mX6_lowestCell_L11 w) (F := F) (fun i y => y.2 = jI ((i + 1 : Nat) : Int) ∧ i < n ∧ ∃ l, y.1 = jI (l : Nat) ∧ Vs n ord l ∧ ∀ k, k < i + 1 → l ≤ ord k) 36 (x := (jI (ord 0 : Nat), (1 : Int32))) (by
    intro i y hi ⟨hy2, hin, l, hl1, hl2, hl3⟩
    by_cases e : n = i + 1
    · left
      refine ⟨jI (l : Nat), ?_, fun self => ?_⟩
      · have hln : l < mN M := by
          obtain ⟨k, hk, rfl⟩ := hl2
          exact hS.2.2.2.2.1 k hk
        rw [lowF_eq (f := joined M r) hln (decide_eq_true (dst_c.mpr ((rt_conn hrt).mp hl2))) (fun c hc hj => by
          obtain ⟨k, hk, rfl⟩ := (rt_conn hrt).mpr (dst_c.mp (of_decide_eq_true hj))
          exact hl3 k (by omega))]
      · simp only [mX6_lowestCell_L11, hy2, h1, hl1]
        rw [nle_t (by omega) (by omega)]
    · right
      have hk1 : i + 1 < n := by omega
      have ho := hS.2.2.2.2.1 (i + 1) hk1
      have hln : l < mN M := by
        obtain ⟨k, hk, rfl⟩ := hl2
        exact hS.2.2.2.2.1 k hk
      refine ⟨by omega, (jI ((if ord (i + 1) < l then ord (i + 1) else l : Nat) : Int), jI ((i + 1 + 1 : Nat) : Int)), ⟨rfl, hk1, (if ord (i + 1) < l then ord (i + 1) else l), rfl, ?_, fun k hk => ?_⟩, fun self => ?_⟩
      · by_cases q : ord (i + 1) < l
        · rw [if_pos q]; exact ⟨i + 1, hk1, rfl⟩
        · rw [if_neg q]; exact hl2
      · by_cases z : k = i + 1
        · subst z; split <;> omega
        · have := hl3 k (by omega); split <;> omega
      · simp only [mX6_lowestCell_L11, hy2, h1, hl1]
        rw [nle_f hk1 (by omega), at_i (by omega) (by omega), bnd_s, h2 (i + 1) hk1, jS]
        by_cases q : ord (i + 1) < l
        · rw [nlt_t q (by omega), if_pos q]
        · rw [nlt_f (by omega) (by omega), if_neg q]) ⟨jl_1, hS.1, ord 0, rfl, ⟨0, hS.1, rfl⟩, fun k hk => by
      obtain rfl : k = 0 := by omega
      exact Nat.le_refl _⟩ hF
  obtain ⟨z, z1, z2⟩ := key
  rw [z2, z1]
noncomputable def partN (M : Mz) (r : Nat) : Nat := sN (fun c => b01 (joined M r c)) (mN M)
theorem cells_part (hw : WF2 M) (hq : WQ M r w) : w.1 = jI (partN M r : Nat) := by
  obtain ⟨n, ord, prev, len, hS, h1, -⟩ := hq
  have hrt := ss_rt hS
  rw [h1]
  unfold partN
  rw [ind_sum n _ hS.2.2.2.2.1 hS.2.2.2.2.2.1 (fun c hc => ⟨fun q => ?_, fun q => ?_⟩)]
  · show b01 (decide (0 ≤ dst (mC M) (mO M) r c)) = 1
    rw [decide_eq_true (dst_c.mpr ((rt_conn hrt).mp q))]; rfl
  · show b01 (decide (0 ≤ dst (mC M) (mO M) r c)) = 0
    rw [decide_eq_false (fun z => q ((rt_conn hrt).mpr (dst_c.mp z)))]; rfl
theorem partOf8 {f0 q0 : nF} {lb : Bool} (hF : 36 < F) (h : R8 s M) (hw : WF2 M) (hr : r < mN M) : ∃ z, mX8_partOf F s f0 q0 (jI (r : Nat)) (bI lb) = some (jI (if lb = true then lowF (joined M r) (mN M) else partN M r : Nat), z) := by
  have hN := dm_le hw.1
  obtain ⟨fq, m1, m2⟩ := measures8 (f0 := f0) (q0 := q0) hF h hw hr
  unfold mX8_partOf
  rw [m1, bnd_s]
  simp only [jn_e]
  have hjr : joined M r r = true := decide_eq_true (dst_c.mpr conn_rf)
  have hlow : lowF (joined M r) (mN M) < mN M := by
    obtain ⟨g1, g2, g3⟩ := lowF_spec (f := joined M r) (mN M)
    apply Classical.byContradiction
    intro q
    have := g3 r (by omega)
    rw [hjr] at this; cases this
  have := lpr_fn (L := mX8_partOf_L13 s fq (mX8_partOf_K69 (bI lb) fq)) (e := mX8_partOf_K69 (bI lb) fq (jI (lowF (joined M r) (mN M) : Nat), jI (partN M r : Nat))) (F := F) (fun i => ((if lowF (joined M r) i < i then jI (lowF (joined M r) i : Nat) else (-1 : Int32)), jI (sN (fun c => b01 (joined M r c)) i : Nat), jI (i : Nat))) (mN M) (by
    intro i hi self
    have hb := dst_b hw hr hi
    simp only [mX8_partOf_L13, cells8 h, bnd_s, jn_e]
    rw [nle_f hi (by omega)]
    simp only [gdi (show i < 36 by omega) (show 36 < 100000 by omega), jcl i (by omega), m2 i hi]
    have hg := (lowF_spec (f := joined M r) i).2.1
    have hb0 : sN (fun c => b01 (joined M r c)) (i + 1) = sN (fun c => b01 (joined M r c)) i + b01 (joined M r i) := rfl
    have hlS : lowF (joined M r) (i + 1) = if lowF (joined M r) i < i then lowF (joined M r) i else if joined M r i = true then i else i + 1 := rfl
    rw [← jS i, hb0, hlS]
    by_cases q : 0 ≤ dst (mC M) (mO M) r i
    · have hji : joined M r i = true := decide_eq_true q
      rw [j_0, jlt_f hb (by omega) q, jlt_f hb (by omega) q, hji, ← jnA]
      by_cases e : lowF (joined M r) i < i
      · rw [if_pos e, if_pos e, jle_t (by omega) (by omega) (by omega), if_pos (show lowF (joined M r) i < i + 1 by omega)]
        rfl
      · rw [if_neg e, if_neg e, if_pos (show true = true from rfl), if_neg (show ¬ (jI 0 ≤ (-1 : Int32)) by decide), if_pos (show i < i + 1 by omega), jlt_f hb (by omega) q]
        rfl
    · have hji : joined M r i = false := decide_eq_false q
      rw [j_0, jlt_t hb (by omega) (by omega), jlt_t hb (by omega) (by omega), hji, ← jnA]
      by_cases e : lowF (joined M r) i < i
      · rw [if_pos e, if_pos e, jle_t (by omega) (by omega) (by omega), if_pos (show lowF (joined M r) i < i + 1 by omega)]
        rfl
      · rw [if_neg e, if_neg e, if_neg (show ¬ (jI 0 ≤ (-1 : Int32)) by decide), if_neg (show ¬ (false = true) from Bool.noConfusion), if_neg (show ¬ i + 1 < i + 1 by omega)]
        rfl) (by
    intro self
    simp only [mX8_partOf_L13, cells8 h, bnd_s]
    rw [nle_t (Nat.le_refl _) (by omega), if_pos hlow]
    rfl) (by omega)
  refine ⟨(fq.1, fq.2), ?_⟩
  have e0 : (if lowF (joined M r) 0 < 0 then jI (lowF (joined M r) 0 : Nat) else (-1 : Int32)) = -1 := if_neg (by omega)
  rw [e0] at this
  have this2 : lpr (mX8_partOf_L13 s fq (mX8_partOf_K69 (bI lb) fq)) F ((-1 : Int32), (0 : Int32), (0 : Int32)) = _ := this
  rw [this2]
  simp only [mX8_partOf_K69, jn_e, ifb]
  cases lb
  · rw [if_neg Bool.noConfusion, if_neg Bool.noConfusion]
  · rw [if_pos rfl, if_pos rfl]
theorem isOnWay3 (hF : 36 < F) (h : R3 v M) (hw : WF2 M) (hX : mX M < mN M) (hE : mE M < mN M) (hc : c < mN M) : ∃ z, mX7_isOnWay F v w1 w2 (jI (c : Nat)) = some (bI (decide (c ∈ wy (mC M) (mO M) (mX M) (mE M))), z) := by
  have hN := dm_le hw.1
  obtain ⟨w', q1, q2⟩ := hasWay3 (w := w2) hF h hw hX hE
  unfold mX7_isOnWay
  rw [q1, bnd_s]
  simp only [jn_e, ifb]
  by_cases hd0 : 0 ≤ dst (mC M) (mO M) (mX M) (mE M)
  · rw [if_pos (decide_eq_true hd0), wq_reach hw hX hc q2, bnd_s, ifb]
    have hcn := dst_c.mp hd0
    by_cases hd1 : 0 ≤ dst (mC M) (mO M) (mX M) c
    · rw [if_pos (decide_eq_true hd1)]
      have hcc := dst_c.mp hd1
      obtain ⟨w'', q3, q4⟩ := findFrom3 (w := w1) hF h hw hE
      rw [entry3 h, bnd_s, q3, bnd_s, wq_len hw hE hc q4, bnd_s, wq_len hw hX hc q2, bnd_s, bnd_s, wq_len hw hX hE q2, bnd_s, jI_add]
      obtain ⟨V, len, prev, hrt⟩ := rt_ex hw hE
      obtain ⟨V2, len2, prev2, hrt2⟩ := rt_ex hw hX
      have hVE := (rt_conn hrt2).mpr hcn
      have hVc := (rt_conn hrt2).mpr hcc
      have hVc1 := (rt_conn hrt).mpr (conn_tr (conn_sy hcn) hcc)
      have ho := on_way hw.1.1 hw.2.2 hrt hrt2 hVE hVc
      rw [← wy_rt hw.1.1 hw.2.2 hrt2 hVE] at ho
      have e1 := dst_rt hw.1.1 hw.2.2 hrt2 hVE
      have e2 := dst_rt hw.1.1 hw.2.2 hrt2 hVc
      have e3 := dst_rt hw.1.1 hw.2.2 hrt hVc1
      have l1 := dst_lt hw hX hE
      have l2 := dst_lt hw hX hc
      have l3 := dst_lt hw hE hc
      by_cases e : dst (mC M) (mO M) (mE M) c + dst (mC M) (mO M) (mX M) c = dst (mC M) (mO M) (mX M) (mE M)
      · rw [jeq_t e, gz1, bI_p (ho.mpr ⟨hVc1, by omega⟩)]
        exact ⟨_, rfl⟩
      · rw [jeq_f (by omega) (by omega) e, gz0, bI_n (fun z => e (by have := (ho.mp z).2; omega))]
        exact ⟨_, rfl⟩
    · rw [if_neg (by rw [decide_eq_false hd1]; exact Bool.noConfusion), gz0, bI_n]
      · exact ⟨_, rfl⟩
      · intro hm
        apply hd1
        obtain ⟨h1, h2, h3, h4⟩ := wy_spec hcn
        exact dst_c.mpr (conn_tr hcn (wk_conn h1 h3 hm))
  · rw [if_neg (by rw [decide_eq_false hd0]; exact Bool.noConfusion), gz0, wy_no (fun z => hd0 (dst_c.mpr z)), bI_n (by simp)]
    exact ⟨_, rfl⟩
theorem onWay8 {f0 q0 o0 st0 : nF} {wc tu : Int32} (hF : 36 < F) (h : R8 s M) (hw : WF2 M) (hX : mX M < mN M) (hE : mE M < mN M) (hc : c < mN M) : ∃ z, mX8_onWay F s f0 q0 o0 st0 wc tu (jI (c : Nat)) = some (bI (decide (c ∈ wy (mC M) (mO M) (mX M) (mE M))), z) := by
  have hN := dm_le hw.1
  obtain ⟨z, z1, z2, z3, -⟩ := findsWay8 (f0 := f0) (q0 := q0) (o0 := o0) (st0 := st0) (wc := wc) (tu := tu) hF h hw hX hE
  unfold mX8_onWay
  rw [gl4, cl4, h.2.2.2.2.1, z1, bnd_s, gdi (by omega) (by omega)]
  simp only [jn_e, jcl c (by omega), z3 c hc]
  by_cases q : c ∈ wy (mC M) (mO M) (mX M) (mE M)
  · rw [decide_eq_true q, if_neg (by decide)]
    exact ⟨_, rfl⟩
  · rw [decide_eq_false q, if_pos (by decide)]
    exact ⟨_, rfl⟩
/-- what between answers -/
noncomputable def betwA (M : Mz) (a b : Int) : Int := if 0 ≤ a ∧ a < (mN M : Int) ∧ 0 ≤ b ∧ b < (mN M : Int) then (if dst (mC M) (mO M) a.toNat b.toNat < 0 then -4 else dst (mC M) (mO M) a.toNat b.toNat) else -1
theorem between3 (hF : 36 < F) (h : R3 v M) (hw : WF2 M) (ha : -2147483648 ≤ a ∧ a < 2147483648) (hb : -2147483648 ≤ b ∧ b < 2147483648) : ∃ z, mX7_between F v w (jI a) (jI b) = some (jI (betwA M a b), z) := by
  have hN := dm_le hw.1
  unfold mX7_between betwA
  rw [hasCell3 h hw.1 ha, bnd_s]
  simp only [jn_e, ifb]
  by_cases h1 : 0 ≤ a ∧ a < (mN M : Int)
  · rw [if_pos (decide_eq_true h1), hasCell3 h hw.1 hb, bnd_s, ifb]
    by_cases h2 : 0 ≤ b ∧ b < (mN M : Int)
    · rw [if_pos (decide_eq_true h2), if_pos (by omega)]
      obtain ⟨p, rfl⟩ := Int.eq_ofNat_of_zero_le h1.1
      obtain ⟨q, rfl⟩ := Int.eq_ofNat_of_zero_le h2.1
      have hp : p < mN M := by omega
      have hq : q < mN M := by omega
      simp only [Int.toNat_natCast]
      obtain ⟨w', q1, q2⟩ := findFrom3 (w := w) hF h hw hp
      rw [q1, bnd_s, wq_reach hw hp hq q2, bnd_s, ifb]
      by_cases e : 0 ≤ dst (mC M) (mO M) p q
      · rw [if_pos (decide_eq_true e), wq_len hw hp hq q2, bnd_s, if_neg (by omega)]
        exact ⟨_, rfl⟩
      · rw [if_neg (by rw [decide_eq_false e]; exact Bool.noConfusion), if_pos (by omega)]
        exact ⟨_, rfl⟩
    · rw [if_neg (by rw [decide_eq_false h2]; exact Bool.noConfusion), if_neg (by omega)]
      exact ⟨_, rfl⟩
  · rw [if_neg (by rw [decide_eq_false h1]; exact Bool.noConfusion), if_neg (by omega)]
    exact ⟨_, rfl⟩
theorem orNone8 (ha : -2147483648 ≤ a ∧ a < 2147483648) : mX8_orNone (jI a) = some (jI (if a < 0 then -4 else a)) := by
  unfold mX8_orNone
  simp only [jn_e]
  by_cases h : a < 0
  · rw [j_0, jle_f (by omega) ha h, if_pos h]; rfl
  · rw [j_0, jle_t (by omega) ha (by omega), if_neg h]
theorem between8 {f0 q0 : nF} (hF : 36 < F) (h : R8 s M) (hw : WF2 M) (ha : -2147483648 ≤ a ∧ a < 2147483648) (hb : -2147483648 ≤ b ∧ b < 2147483648) : ∃ z, mX8_between F s f0 q0 (jI a) (jI b) = some (jI (betwA M a b), z) := by
  have hN := dm_le hw.1
  unfold mX8_between betwA
  rw [isCell8 h hw.1 ha, bnd_s]
  simp only [jn_e, ifb]
  by_cases h1 : 0 ≤ a ∧ a < (mN M : Int)
  · rw [if_pos (decide_eq_true h1), isCell8 h hw.1 hb, bnd_s, ifb]
    by_cases h2 : 0 ≤ b ∧ b < (mN M : Int)
    · rw [if_pos (decide_eq_true h2), if_pos (by omega)]
      obtain ⟨p, rfl⟩ := Int.eq_ofNat_of_zero_le h1.1
      obtain ⟨q, rfl⟩ := Int.eq_ofNat_of_zero_le h2.1
      have hp : p < mN M := by omega
      have hq : q < mN M := by omega
      simp only [Int.toNat_natCast]
      obtain ⟨fq, q1, q2⟩ := measures8 (f0 := f0) (q0 := q0) hF h hw hp
      rw [q1, bnd_s, gdi (by omega) (by omega), jcl q (by omega), q2 q hq, orNone8 (dst_b hw hp hq), bnd_s]
      exact ⟨_, rfl⟩
    · rw [if_neg (by rw [decide_eq_false h2]; exact Bool.noConfusion), if_neg (by omega)]
      exact ⟨_, rfl⟩
  · rw [if_neg (by rw [decide_eq_false h1]; exact Bool.noConfusion), if_neg (by omega)]
    exact ⟨_, rfl⟩
end PD
