/-! WAYS: the list of the cells from c to r, cell by cell -/
def itr (prev : Nat → Nat) : Nat → Nat → Nat
  | 0, c => c
  | k + 1, c => itr prev k (prev c)
theorem itr_S {prev : Nat → Nat} : ∀ k c, itr prev (k + 1) c = prev (itr prev k c) := by
  intro k
  induction k with
  | zero => intro c; rfl
  | succ k ih => intro c; show itr prev (k + 1) (prev c) = prev (itr prev k (prev c)); exact ih (prev c)
def nth (l : List Nat) (k : Nat) : Nat := l.getD k 0
theorem nth_pth {prev : Nat → Nat} : ∀ n c k, k ≤ n → nth (pth prev n c) k = itr prev k c := by
  intro n
  induction n with
  | zero => intro c k hk; obtain rfl : k = 0 := by omega
            rfl
  | succ n ih =>
    intro c k hk
    cases k with
    | zero => rfl
    | succ k => exact ih (prev c) k (by omega)
theorem mem_pth {prev : Nat → Nat} : ∀ n c x, x ∈ pth prev n c ↔ ∃ k, k ≤ n ∧ itr prev k c = x := by
  intro n
  induction n with
  | zero =>
    intro c x
    simp only [pth, List.mem_singleton]
    exact ⟨fun h => ⟨0, by omega, h.symm⟩, fun ⟨k, hk, h⟩ => by
      obtain rfl : k = 0 := by omega
      exact h.symm⟩
  | succ n ih =>
    intro c x
    simp only [pth, List.mem_cons, ih]
    constructor
    · rintro (h | ⟨k, hk, h⟩)
      · exact ⟨0, by omega, h.symm⟩
      · exact ⟨k + 1, by omega, h⟩
    · rintro ⟨k, hk, h⟩
      cases k with
      | zero => exact Or.inl h.symm
      | succ k => exact Or.inr ⟨k, by omega, h⟩
section WA
variable {C N r c x y : Nat} {op : Op} {V : Nat → Prop} {len prev : Nat → Nat}
theorem itr_rt (h : RT C op r V len prev) (hc : V c) : ∀ k, k ≤ len c → V (itr prev k c) ∧ len (itr prev k c) + k = len c := by
  intro k
  induction k with
  | zero => intro _; exact ⟨hc, rfl⟩
  | succ k ih =>
    intro hk
    obtain ⟨h1, h2⟩ := ih (by omega)
    have hne : itr prev k c ≠ r := by
      intro e
      rw [e, h.2.1] at h2; omega
    obtain ⟨q1, q2, q3⟩ := h.2.2.1 _ h1 hne
    rw [itr_S]
    exact ⟨q1, by omega⟩
theorem itr_adj (h : RT C op r V len prev) (hc : V c) {k : Nat} (hk : k < len c) : adj C op (itr prev k c) (itr prev (k + 1) c) := by
  obtain ⟨h1, h2⟩ := itr_rt h hc k (by omega)
  have hne : itr prev k c ≠ r := by
    intro e
    rw [e, h.2.1] at h2; omega
  rw [itr_S]
  exact adj_sy (h.2.2.1 _ h1 hne).2.1
theorem itr_inj (h : RT C op r V len prev) (hc : V c) {j k : Nat} (hj : j ≤ len c) (hk : k ≤ len c) (e : itr prev j c = itr prev k c) : j = k := by
  have h1 := (itr_rt h hc j hj).2
  have h2 := (itr_rt h hc k hk).2
  rw [e] at h1
  omega
/-- how many turns -/
def tcn (g : Nat → Int) : Nat → Nat
  | 0 => 0
  | k + 1 => tcn g k + (if 0 < k ∧ g k ≠ g (k - 1) then 1 else 0)
def turnsOf (l : List Nat) : Nat := tcn (fun k => (nth l (k + 1) : Int) - (nth l k : Int)) (l.length - 1)
theorem tcn_congr {f g : Nat → Int} {n : Nat} (h : ∀ k, k < n → f k = g k) : tcn f n = tcn g n := by
  induction n with
  | zero => rfl
  | succ n ih =>
    simp only [tcn]
    rw [ih (fun k hk => h k (by omega)), h n (by omega)]
    by_cases e : 0 < n
    · rw [h (n - 1) (by omega)]
    · simp [e]
theorem tcn_le {g : Nat → Int} {n : Nat} : tcn g n ≤ n := by
  induction n with
  | zero => exact Nat.le_refl _
  | succ n ih => simp only [tcn]; split <;> omega
/-- how the number changes in a direction -/
def dif (C d : Nat) : Int := if d = 0 then -(C : Int) else if d = 1 then 1 else if d = 2 then (C : Int) else -1
theorem nb_dif {d : Nat} (h : nb C N c d = some x) : (x : Int) - (c : Int) = dif C d := by
  unfold nb at h
  unfold dif
  split at h
  · rename_i e
    rw [if_pos e]
    split at h
    · rename_i q
      have : c - C = x := by simpa using h
      omega
    · cases h
  · rename_i e
    rw [if_neg e]
    split at h
    · rename_i e2
      rw [if_pos e2]
      split at h
      · have : c + 1 = x := by simpa using h
        omega
      · cases h
    · rename_i e2
      rw [if_neg e2]
      split at h
      · rename_i e3
        rw [if_pos e3]
        split at h
        · have : c + C = x := by simpa using h
          omega
        · cases h
      · rename_i e3
        rw [if_neg e3]
        split at h
        · rename_i q
          have h0 : c ≠ 0 := by
            rintro rfl
            simp at q
          have : c - 1 = x := by simpa using h
          omega
        · cases h
theorem dif_inj {d d' : Nat} (hC : 2 ≤ C) (hd : d < 4) (hd' : d' < 4) (h : dif C d = dif C d') : d = d' := by
  unfold dif at h
  have g1 : d = 0 ∨ d = 1 ∨ d = 2 ∨ d = 3 := by omega
  have g2 : d' = 0 ∨ d' = 1 ∨ d' = 2 ∨ d' = 3 := by omega
  rcases g1 with rfl | rfl | rfl | rfl <;> rcases g2 with rfl | rfl | rfl | rfl <;> simp at h <;> omega
end WA
/-- a picture of a maze -/
def vOf (M : Mz) : MZ := (jI (mC M : Nat), jI (mR M : Nat), fun c => jI (mT M c : Nat), fun c => jI (mask (mC M) (mN M) (mO M) c : Nat), fun i => if i = 0 then jI (mE M : Nat) else jI (mX M : Nat), fun i => if i = 0 then jI (mEs M : Nat) else jI (mXs M : Nat))
theorem rt_ex {M : Mz} {r : Nat} (hw : WF2 M) (hr : r < mN M) : ∃ V len prev, RT (mC M) (mO M) r V len prev := by
  obtain ⟨w', -, n, ord, prev, len, hS, -⟩ := findFrom3 (F := 100) (w := (0, fun _ => 0, fun _ => 0, fun _ => 0, fun _ => 0)) (v := vOf M) (by omega) ⟨rfl, rfl, fun _ _ => rfl, fun _ _ => rfl, rfl, rfl, rfl, rfl⟩ hw hr
  exact ⟨_, _, _, ss_rt hS⟩
theorem nar1 : vp_nar .boolean (1 : Int32) = jI ((b01 true : Nat) : Int) := by decide +kernel
theorem nar0 : vp_nar .boolean (0 : Int32) = jI ((b01 false : Nat) : Int) := by decide +kernel
section FW
variable {s : nF} {M : Mz} {c d F n i r x : Nat}
theorem conn_N (hw : WF2 M) (h : conn (mC M) (mO M) r c) (hr : r < mN M) : c < mN M := conn_lt (vO_inG hw.1.1 hw.1.2.1 hw.1.2.2.1 hw.1.2.2.2 hw.2.1) h hr
theorem dst_lt (hw : WF2 M) (hr : r < mN M) (hc : c < mN M) : dst (mC M) (mO M) r c < (mN M : Int) := by
  obtain ⟨w', -, n, ord, prev, len, hS, -⟩ := findFrom3 (F := 100) (w := (0, fun _ => 0, fun _ => 0, fun _ => 0, fun _ => 0)) (v := vOf M) (by omega) ⟨rfl, rfl, fun _ _ => rfl, fun _ _ => rfl, rfl, rfl, rfl, rfl⟩ hw hr
  have hN := dm_le hw.1
  have hrt := ss_rt hS
  by_cases q : Vs n ord c
  · obtain ⟨k, hk, rfl⟩ := q
    rw [dst_rt hw.1.1 hw.2.2 hrt ⟨k, hk, rfl⟩]
    have := ss_len hS k hk
    have := ss_n hS
    omega
  · rw [dst_no (fun z => q ((rt_conn hrt).mpr z))]
    omega
theorem dst_b (hw : WF2 M) (hr : r < mN M) (hc : c < mN M) : -2147483648 ≤ dst (mC M) (mO M) r c ∧ dst (mC M) (mO M) r c < 2147483648 := by
  have hN := dm_le hw.1
  have := dst_lt hw hr hc
  have := dst_ge (C := mC M) (op := mO M) (r := r) (c := c)
  omega
/-- what findsWay leaves -/
def FWs (M : Mz) (x : Nat) (z : Int32 × nF × nF × nF × nF × Int32 × Int32) : Prop :=
  z.1 = bI (decide (0 ≤ dst (mC M) (mO M) x (mE M))) ∧ (∀ c, c < mN M → z.2.2.2.1 c = jI (b01 (decide (c ∈ wy (mC M) (mO M) x (mE M))) : Nat)) ∧
  (∀ k, k < (wy (mC M) (mO M) x (mE M)).length → z.2.2.2.2.1 k = jI (nth (wy (mC M) (mO M) x (mE M)) k : Nat)) ∧ z.2.2.2.2.2.1 = jI ((wy (mC M) (mO M) x (mE M)).length : Nat) ∧ z.2.2.2.2.2.2 = jI (turnsOf (wy (mC M) (mO M) x (mE M)) : Nat)
/-- the direction of the next step is found -/
theorem fw_dir (hF : 4 < F) (h : R8 s M) (hw : WF2 M) {r3 : nF × nF} {a y : Nat} {x4 : Int32 × Int32 × nF × nF × Int32 × Int32} (hx4 : x4.1 = jI (a : Nat)) (ha : a < mN M) (hfar : ∀ c, c < mN M → r3.1 c = jI (dst (mC M) (mO M) x c)) (hxN : x < mN M)
    (hn : nb (mC M) (mN M) a d = some y) (hd4 : d < 4) (ho : mO M (num (mC M) a d) = true) (hy : dst (mC M) (mO M) x y = dst (mC M) (mO M) x a - 1)
    (hun : ∀ y', adj (mC M) (mO M) a y' → dst (mC M) (mO M) x y' = dst (mC M) (mO M) x a - 1 → y' = y) : ∀ j7, lpr (mX8_findsWay_L92 s r3 x4 j7) F ((-1 : Int32), (0 : Int32)) = j7 (jI (d : Nat)) := by
  obtain ⟨hd, hv, hfo⟩ := hw
  have hw : WF2 M := ⟨hd, hv, hfo⟩
  have hN := dm_le hd
  intro j7
  have hst : ∀ i, i < 4 → ∀ self : (Int32 × Int32) → Option (Int32 × nF × nF × nF × nF × Int32 × Int32), ∀ w : Int32, mX8_findsWay_L92 s r3 x4 j7 self (w, jI (i : Nat)) = self (if i = d then jI (d : Nat) else w, jI ((i + 1 : Nat) : Int)) := by
    intro i hi self w
    simp only [mX8_findsWay_L92, jl_4, hx4]
    rw [nle_f hi (by omega), isOpen8 h hd ha hi, bnd_s]
    simp only [jn_e, ifb, jS, besides8 h hd ha hi, bnd_s, gdi (show a < 36 by omega) (show 36 < 100000 by omega), jcl a (by omega), hfar a ha]
    by_cases hop : opn (mC M) (mN M) (mO M) a i = true
    · obtain ⟨o, hno, hoo⟩ := opn_t.mp hop
      have hoN := (num_lt hd ha hi hno).2
      have hadj := (adj_dir hd.1 hd.2.1 hd.2.2.1 hd.2.2.2 hv ha).mpr ⟨i, hi, hno, hoo⟩
      rw [if_pos hop, hno, oJ_some, gdi (by omega) (by omega), jcl o (by omega), hfar o hoN, j_1, jI_sub]
      have b1 := dst_b hw hxN hoN
      have b2 := dst_lt hw hxN ha
      have b3 := dst_ge (C := mC M) (op := mO M) (r := x) (c := a)
      by_cases e : dst (mC M) (mO M) x o = dst (mC M) (mO M) x a - 1
      · rw [jeq_t e]
        have hoy := hun o hadj e
        subst hoy
        have hdi : i = d := dif_inj hd.1 hi hd4 (by rw [← nb_dif hno, ← nb_dif hn])
        rw [if_pos hdi, hdi]
      · rw [jeq_f b1 (by omega) e]
        have hdi : i ≠ d := by
          rintro rfl
          rw [hn] at hno; cases hno
          exact e hy
        rw [if_neg hdi]
    · rw [if_neg hop]
      have hdi : i ≠ d := by
        rintro rfl
        exact hop (opn_t.mpr ⟨y, hn, ho⟩)
      rw [if_neg hdi]
  have := lpr_fn (L := mX8_findsWay_L92 s r3 x4 j7) (e := j7 (jI (d : Nat))) (F := F) (fun i => ((if d < i then jI (d : Nat) else (-1 : Int32)), jI (i : Nat))) 4 (by
    intro i hi self
    rw [hst i hi]
    congr 2
    by_cases e : i = d
    · rw [if_pos e, if_pos (by omega)]
    · rw [if_neg e]
      by_cases q : d < i
      · rw [if_pos q, if_pos (by omega)]
      · rw [if_neg q, if_neg (by omega)]) (by
    intro self
    simp only [mX8_findsWay_L92, jl_4]
    rw [nle_t (Nat.le_refl _) (by omega), if_pos hd4]) hF
  rw [if_neg (by omega)] at this
  rw [← this, jl_0]
end FW
