/-! SEARCH: the breadth-first search of both sides -/
theorem php {N n : Nat} {g : Nat → Nat} (h1 : ∀ i, i < n → g i < N) (h2 : ∀ i j, i < n → j < n → g i = g j → i = j) : n ≤ N := by
  have hn : ((List.range n).map g).Nodup := by
    rw [List.nodup_iff_pairwise_ne, List.pairwise_map]
    refine List.Pairwise.imp_of_mem ?_ (List.nodup_iff_pairwise_ne.mp (List.nodup_range (n := n)))
    intro a b ha hb hne e
    exact hne (h2 a b (List.mem_range.mp ha) (List.mem_range.mp hb) e)
  have hs : (List.range n).map g ⊆ List.range N := by
    intro x hx
    obtain ⟨i, hi, rfl⟩ := List.mem_map.mp hx
    exact List.mem_range.mpr (h1 i (List.mem_range.mp hi))
  have := List.Nodup.length_le_of_subset hn hs
  simpa using this
def Vs (n : Nat) (ord : Nat → Nat) (c : Nat) : Prop := ∃ k, k < n ∧ ord k = c
def SS (C N : Nat) (op : Op) (r i n : Nat) (ord prev len : Nat → Nat) : Prop :=
  0 < n ∧ i ≤ n ∧ ord 0 = r ∧ len r = 0 ∧ (∀ k, k < n → ord k < N) ∧ (∀ j k, j < n → k < n → ord j = ord k → j = k) ∧
  (∀ k, 0 < k → k < n → ∃ j, j < k ∧ prev (ord k) = ord j ∧ adj C op (ord j) (ord k) ∧ len (ord k) = len (ord j) + 1) ∧
  (∀ k c, k < i → adj C op (ord k) c → Vs n ord c)
def set1 {α : Type} (f : Nat → α) (k : Nat) (x : α) : Nat → α := fun j => if j = k then x else f j
theorem set1_s {α : Type} {f : Nat → α} {k : Nat} {x : α} : set1 f k x k = x := if_pos rfl
theorem set1_n {α : Type} {f : Nat → α} {k j : Nat} {x : α} (h : j ≠ k) : set1 f k x j = f j := if_neg h
section SE
variable {C N r i n c : Nat} {op : Op} {ord prev len : Nat → Nat}
theorem ss_n (h : SS C N op r i n ord prev len) : n ≤ N := php h.2.2.2.2.1 h.2.2.2.2.2.1
theorem Vs_add (h : Vs n ord c) {x : Nat} : Vs (n + 1) (set1 ord n x) c := by
  obtain ⟨k, hk, rfl⟩ := h
  exact ⟨k, by omega, set1_n (by omega)⟩
theorem ss_add (h : SS C N op r i n ord prev len) (hi : i < n) (hc : c < N) (ha : adj C op (ord i) c) (hn : ¬ Vs n ord c) : SS C N op r i (n + 1) (set1 ord n c) (set1 prev c (ord i)) (set1 len c (len (ord i) + 1)) := by
  obtain ⟨a1, a2, a3, a4, a5, a6, a7, a8⟩ := h
  have hne : ∀ k, k < n → ord k ≠ c := fun k hk e => hn ⟨k, hk, e⟩
  refine ⟨by omega, by omega, by rw [set1_n (by omega)]; exact a3, ?_, ?_, ?_, ?_, ?_⟩
  · rw [set1_n (by rw [← a3]; exact hne 0 a1)]; exact a4
  · intro k hk
    by_cases e : k = n
    · subst e; rw [set1_s]; exact hc
    · rw [set1_n e]; exact a5 k (by omega)
  · intro j k hj hk he
    by_cases e1 : j = n
    · by_cases e2 : k = n
      · omega
      · subst e1
        rw [set1_s, set1_n e2] at he
        exact absurd he.symm (hne k (by omega))
    · by_cases e2 : k = n
      · subst e2
        rw [set1_s, set1_n e1] at he
        exact absurd he (hne j (by omega))
      · rw [set1_n e1, set1_n e2] at he
        exact a6 j k (by omega) (by omega) he
  · intro k hk0 hk
    by_cases e : k = n
    · subst e
      refine ⟨i, hi, ?_, ?_, ?_⟩
      · rw [set1_s, set1_s, set1_n (by omega)]
      · rw [set1_s, set1_n (by omega)]; exact ha
      · rw [set1_s, set1_s, set1_n (show i ≠ k by omega), set1_n (hne i hi)]
    · obtain ⟨j, b1, b2, b3, b4⟩ := a7 k hk0 (by omega)
      refine ⟨j, b1, ?_, ?_, ?_⟩
      · rw [set1_n e, set1_n (hne k (by omega)), set1_n (by omega)]; exact b2
      · rw [set1_n e, set1_n (by omega)]; exact b3
      · rw [set1_n e, set1_n (hne k (by omega)), set1_n (show j ≠ n by omega), set1_n (hne j (by omega))]; exact b4
  · intro k c' hk hac
    rw [set1_n (by omega)] at hac
    exact Vs_add (a8 k c' hk hac)
theorem ss_next (h : SS C N op r i n ord prev len) (hi : i < n) (ha : ∀ c, adj C op (ord i) c → Vs n ord c) : SS C N op r (i + 1) n ord prev len := by
  obtain ⟨a1, a2, a3, a4, a5, a6, a7, a8⟩ := h
  refine ⟨a1, by omega, a3, a4, a5, a6, a7, fun k c hk hac => ?_⟩
  by_cases e : k = i
  · subst e; exact ha c hac
  · exact a8 k c (by omega) hac
theorem ss_rt (h : SS C N op r n n ord prev len) : RT C op r (Vs n ord) len prev := by
  obtain ⟨a1, a2, a3, a4, a5, a6, a7, a8⟩ := h
  refine ⟨⟨0, a1, a3⟩, a4, ?_, ?_⟩
  · rintro c ⟨k, hk, rfl⟩ hne
    have : 0 < k := by
      rcases Nat.eq_zero_or_pos k with rfl | q
      · exact absurd a3 hne
      · exact q
    obtain ⟨j, b1, b2, b3, b4⟩ := a7 k this hk
    rw [b2]
    exact ⟨⟨j, by omega, rfl⟩, b3, b4⟩
  · rintro c c' ⟨k, hk, rfl⟩ ha
    exact a8 k c' hk ha
theorem ss_len (h : SS C N op r i n ord prev len) : ∀ k, k < n → len (ord k) ≤ k := by
  obtain ⟨a1, a2, a3, a4, a5, a6, a7, a8⟩ := h
  intro k
  induction k using Nat.strongRecOn with
  | ind k ih =>
    intro hk
    rcases Nat.eq_zero_or_pos k with rfl | q
    · rw [a3, a4]; omega
    · obtain ⟨j, b1, b2, b3, b4⟩ := a7 k q hk
      have := ih j b1 (by omega)
      omega
end SE
/-- the way from c to r, without a repetition; empty if there is none -/
noncomputable def wy (C : Nat) (op : Op) (r c : Nat) : List Nat :=
  @dite (List Nat) (∃ l : List Nat, Wk C op l ∧ l.Nodup ∧ l.head? = some c ∧ l.getLast? = some r) (Classical.propDecidable _) (fun h => Classical.choose h) (fun _ => [])
section WYS
variable {C r c : Nat} {op : Op} {V : Nat → Prop} {len prev : Nat → Nat}
theorem wy_spec (h : conn C op r c) : Wk C op (wy C op r c) ∧ (wy C op r c).Nodup ∧ (wy C op r c).head? = some c ∧ (wy C op r c).getLast? = some r := by
  have hw := conn_way (conn_sy h)
  unfold wy
  rw [dif_pos hw]
  exact Classical.choose_spec hw
theorem wy_no (h : ¬ conn C op r c) : wy C op r c = [] := by
  unfold wy
  rw [dif_neg]
  rintro ⟨l, h1, -, h3, h4⟩
  exact h (conn_sy (wk_conn h1 h3 (List.mem_of_getLast? h4)))
theorem wy_rt (hC : 2 ≤ C) (hF : forest C op) (h : RT C op r V len prev) (hc : V c) : wy C op r c = pth prev (len c) c := by
  obtain ⟨h1, h2, h3, h4⟩ := wy_spec ((rt_conn h).mp hc)
  exact way_uniq hC hF h _ c h1 h2 h3 hc h4
noncomputable def dst (C : Nat) (op : Op) (r c : Nat) : Int := ((wy C op r c).length : Int) - 1
theorem dst_rt (hC : 2 ≤ C) (hF : forest C op) (h : RT C op r V len prev) (hc : V c) : dst C op r c = (len c : Int) := by
  unfold dst
  rw [wy_rt hC hF h hc, pth_len]; omega
theorem dst_no (h : ¬ conn C op r c) : dst C op r c = -1 := by
  unfold dst
  rw [wy_no h]; rfl
theorem dst_c : 0 ≤ dst C op r c ↔ conn C op r c := by
  constructor
  · intro h
    apply Classical.byContradiction
    intro q
    rw [dst_no q] at h
    omega
  · intro h
    have := (wy_spec h).2.2.1
    unfold dst
    cases hw : wy C op r c with
    | nil => rw [hw] at this; cases this
    | cons a l => simp
theorem dst_ge : -1 ≤ dst C op r c := by unfold dst; omega
end WYS
/-- the gain of a cell that is drawn -/
def gain (M : Mz) (c : Nat) : Int := 9 - 2 * (mT M c : Int)
def WF2 (M : Mz) : Prop := dm M ∧ vO (mC M) (mN M) (mO M) ∧ forest (mC M) (mO M)
theorem WF.w2 {M : Mz} (h : WF M) : WF2 M := ⟨h.1, h.2.2.1, h.2.2.2.1⟩
section BF
variable {v : MZ} {w : WY} {s : nF} {M : Mz} {c d F n i r : Nat} {ord prev len : Nat → Nat} {gn : Nat → Int}
def WRe (w : WY) (M : Mz) (r n : Nat) (ord prev len : Nat → Nat) (gn : Nat → Int) : Prop :=
  w.1 = jI (n : Nat) ∧ (∀ k, k < n → w.2.1 k = jI (ord k : Nat)) ∧ (∀ k, 0 < k → k < n → w.2.2.1 (ord k) = jI (prev (ord k) : Nat)) ∧ (∀ k, k < n → w.2.2.2.1 (ord k) = jI (len (ord k) : Nat)) ∧
  (∀ c, c < mN M → ¬ Vs n ord c → w.2.2.2.1 c = jI (-1)) ∧ (∀ k, k < n → w.2.2.2.2 (ord k) = jI (gn (ord k))) ∧ gn r = gain M r ∧ ∀ k, 0 < k → k < n → gn (ord k) = gn (prev (ord k)) + gain M (ord k)
theorem lengthTo3 (hc : c < 36) : mX6_lengthTo w (jI (c : Nat)) = some (w.2.2.2.1 c) := by
  simp only [mX6_lengthTo, jn_e, jN]
  rw [if_neg (by rw [nn0 (by omega)]; exact id), nle_f hc (by omega), gdi hc (by omega), jcl _ (by omega)]
theorem lengthTo3_m : mX6_lengthTo w (jI (-1)) = some (jI (-1)) := by
  simp only [mX6_lengthTo, jn_e]
  rw [if_pos (by decide), j_m1]
theorem reach3_m : mX6_reach w (jI (-1)) = some (bI false) := by
  simp only [mX6_reach, lengthTo3_m, bnd_s, jn_e]
  rw [if_pos (by decide)]; rfl
theorem reach3 (hc : c < 36) {x : Int} (hx : -2147483648 ≤ x ∧ x < 2147483648) (h : w.2.2.2.1 c = jI x) : mX6_reach w (jI (c : Nat)) = some (bI (decide (x ≠ -1))) := by
  simp only [mX6_reach, lengthTo3 hc, bnd_s, jn_e, h, j_m1]
  by_cases e : x = -1
  · rw [jeq_t e, bI_n (by omega)]; rfl
  · rw [jeq_f hx (by omega) e, bI_p e]; rfl
theorem gain_e (hc : c < mN M) (h : R3 v M) : (9 : Int32) - ((2 : Int32) * v.2.2.1 c) = jI (gain M c) := by
  rw [h.2.2.1 c hc, j_9, j_2, jI_mul, jI_sub]; rfl
theorem reachCell3_0 (h : R3 v M) (hd : dm M) (hc : c < mN M) (hn : w.1 = jI (n : Nat)) (hn2 : n < 36) : mX6_reachCell w v (jI (c : Nat)) (-1 : Int32) =
    some (jI ((n + 1 : Nat) : Int), upd w.2.1 n (jI (c : Nat)), upd w.2.2.1 c (-1 : Int32), upd w.2.2.2.1 c (0 : Int32), upd w.2.2.2.2 c (jI (gain M c))) := by
  have hN := dm_le hd
  unfold mX6_reachCell
  rw [at_i (show c < 36 by omega) (by omega), bnd_s, hn, put_i hn2 (by omega), bnd_s, put_i (show c < 36 by omega) (by omega), bnd_s]
  simp only [jn_e, if_true]
  rw [put_i (show c < 36 by omega) (by omega), bnd_s, gain_e hc h, put_i (show c < 36 by omega) (by omega), bnd_s, jS]
theorem reachCell3 (h : R3 v M) (hd : dm M) (hc : c < mN M) {a : Nat} (ha : a < mN M) (hn : w.1 = jI (n : Nat)) (hn2 : n < 36) : mX6_reachCell w v (jI (c : Nat)) (jI (a : Nat)) =
    some (jI ((n + 1 : Nat) : Int), upd w.2.1 n (jI (c : Nat)), upd w.2.2.1 c (jI (a : Nat)), upd w.2.2.2.1 c (w.2.2.2.1 a + (1 : Int32)), upd w.2.2.2.2 c (w.2.2.2.2 a + jI (gain M c))) := by
  have hN := dm_le hd
  unfold mX6_reachCell
  rw [at_i (show c < 36 by omega) (by omega), bnd_s, hn, put_i hn2 (by omega), bnd_s, put_i (show c < 36 by omega) (by omega), bnd_s]
  have hm : ¬ (jI (a : Nat) = (-1 : Int32)) := by rw [nem1 (by omega)]; exact id
  simp only [jn_e, if_neg hm]
  rw [lengthTo3 (show a < 36 by omega), bnd_s, put_i (show c < 36 by omega) (by omega), bnd_s, at_i (show a < 36 by omega) (by omega), bnd_s, gain_e hc h, put_i (show c < 36 by omega) (by omega), bnd_s, jS]
theorem wre_add {a : Nat} (hS : SS (mC M) (mN M) (mO M) r i n ord prev len) (hw : WRe w M r n ord prev len gn) (hi : i < n) (hc : c < mN M) (hn : ¬ Vs n ord c) (ha : a = ord i) :
    WRe (jI ((n + 1 : Nat) : Int), upd w.2.1 n (jI (c : Nat)), upd w.2.2.1 c (jI (a : Nat)), upd w.2.2.2.1 c (w.2.2.2.1 a + (1 : Int32)), upd w.2.2.2.2 c (w.2.2.2.2 a + jI (gain M c))) M r (n + 1) (set1 ord n c) (set1 prev c (ord i)) (set1 len c (len (ord i) + 1)) (set1 gn c (gn (ord i) + gain M c)) := by
  subst ha
  obtain ⟨b1, b2, b3, b4, b5, b6, b7, b8⟩ := hw
  have hne : ∀ k, k < n → ord k ≠ c := fun k hk e => hn ⟨k, hk, e⟩
  refine ⟨rfl, ?_, ?_, ?_, ?_, ?_, ?_, ?_⟩
  · intro k hk
    show upd w.2.1 n (jI (c : Nat)) k = _
    by_cases e : k = n
    · subst e; rw [upd_s, set1_s]
    · rw [upd_n e, set1_n e]; exact b2 k (by omega)
  · intro k hk0 hk
    show upd w.2.2.1 c (jI (ord i : Nat)) _ = _
    by_cases e : k = n
    · subst e; rw [set1_s, upd_s, set1_s]
    · rw [set1_n e, upd_n (hne k (by omega)), set1_n (hne k (by omega))]; exact b3 k hk0 (by omega)
  · intro k hk
    show upd w.2.2.2.1 c _ _ = _
    by_cases e : k = n
    · subst e; rw [set1_s, upd_s, set1_s, b4 i hi, jS]
    · rw [set1_n e, upd_n (hne k (by omega)), set1_n (hne k (by omega))]; exact b4 k (by omega)
  · intro c' hc' hn'
    show upd w.2.2.2.1 c _ c' = _
    have e : c' ≠ c := by
      rintro rfl
      exact hn' ⟨n, by omega, set1_s⟩
    rw [upd_n e]
    exact b5 c' hc' (fun q => hn' (Vs_add q))
  · intro k hk
    show upd w.2.2.2.2 c _ _ = _
    by_cases e : k = n
    · subst e; rw [set1_s, upd_s, set1_s, b6 i hi, jI_add]
    · rw [set1_n e, upd_n (hne k (by omega)), set1_n (hne k (by omega))]; exact b6 k (by omega)
  · rw [set1_n (by rw [← hS.2.2.1]; exact hne 0 hS.1)]; exact b7
  · intro k hk0 hk
    by_cases e : k = n
    · subst e; rw [set1_s, set1_s, set1_s, set1_n (hne i hi)]
    · rw [set1_n e, set1_n (hne k (by omega)), set1_n (hne k (by omega))]
      obtain ⟨j, q1, q2, -⟩ := hS.2.2.2.2.2.2.1 k hk0 (by omega)
      rw [q2, set1_n (hne j (by omega)), ← q2]
      exact b8 k hk0 (by omega)
/-- the inner loop: all cells beside cell i of the order are reached -/
theorem findFrom_in (hF : 4 < F) (h : R3 v M) (hw : WF2 M) {x : WY} (hS : SS (mC M) (mN M) (mO M) r i n ord prev len) (hi : i < n) (hx : WRe x M r n ord prev len gn) :
    ∃ y, (∃ n' ord' prev' len' gn', SS (mC M) (mN M) (mO M) r (i + 1) n' ord' prev' len' ∧ WRe y M r n' ord' prev' len' gn') ∧ ∀ j9, lpr (mX6_findFrom_L49 v (jI (ord i : Nat)) j9) F ((0 : Int32), x) = j9 y := by
  obtain ⟨hd, hv, hfo⟩ := hw
  have hN := dm_le hd
  have hc0 : ord i < mN M := hS.2.2.2.2.1 i hi
  refine lpr_j (L := fun j9 => mX6_findFrom_L49 v (jI (ord i : Nat)) j9) (fun d y => y.1 = jI (d : Nat) ∧ ∃ n' ord' prev' len' gn', SS (mC M) (mN M) (mO M) r i n' ord' prev' len' ∧ WRe y.2 M r n' ord' prev' len' gn' ∧ i < n' ∧ ord' i = ord i ∧ ∀ d', d' < d → ∀ o, nb (mC M) (mN M) (ord i) d' = some o → mO M (num (mC M) (ord i) d') = true → Vs n' ord' o) 4 ?_ ⟨jl_0, n, ord, prev, len, gn, hS, hx, hi, rfl, fun d' hd' => by omega⟩ hF
  intro d y hd4 ⟨hy1, n', ord', prev', len', gn', hS', hx', hi', ho', hn'⟩
  have hnN := ss_n hS'
  by_cases e : d = 4
  · left
    subst e
    refine ⟨y.2, ⟨n', ord', prev', len', gn', ss_next hS' hi' (fun c hac => ?_), hx'⟩, fun j self => ?_⟩
    · rw [ho'] at hac
      obtain ⟨d', q1, q2, q3⟩ := (adj_dir hd.1 hd.2.1 hd.2.2.1 hd.2.2.2 hv hc0).mp hac
      exact hn' d' q1 c q2 q3
    · simp only [mX6_findFrom_L49, hy1, jl_4]
      rw [nle_t (Nat.le_refl _) (by omega)]
  · right
    have hdlt : d < 4 := by omega
    refine ⟨hdlt, ?_⟩
    have hstep : ∀ j self, mX6_findFrom_L49 v (jI (ord i : Nat)) j self y = (if opn (mC M) (mN M) (mO M) (ord i) d = true then ((mX6_reach y.2 (oJ (nb (mC M) (mN M) (ord i) d))).bind fun r16 => if r16 = 0 then ((mX6_reachCell y.2 v (oJ (nb (mC M) (mN M) (ord i) d)) (jI (ord i : Nat))).bind fun r17 => self (jI ((d + 1 : Nat) : Int), r17)) else self (jI ((d + 1 : Nat) : Int), y.2)) else self (jI ((d + 1 : Nat) : Int), y.2)) := by
      intro j self
      simp only [mX6_findFrom_L49, hy1, jl_4]
      rw [nle_f hdlt (by omega), beside3 h hd hc0 hdlt, bnd_s, hasP3 h hd hc0 hdlt, bnd_s]
      simp only [jn_e, ifb, jS]
    cases hop : opn (mC M) (mN M) (mO M) (ord i) d with
    | false =>
      refine ⟨(jI ((d + 1 : Nat) : Int), y.2), ⟨rfl, n', ord', prev', len', gn', hS', hx', hi', ho', fun d' hd' o hno hoo => ?_⟩, fun j self => by rw [hstep, hop, if_neg Bool.noConfusion]⟩
      by_cases q : d' = d
      · subst q
        have : opn (mC M) (mN M) (mO M) (ord i) d' = true := opn_t.mpr ⟨o, hno, hoo⟩
        rw [hop] at this; cases this
      · exact hn' d' (by omega) o hno hoo
    | true =>
      obtain ⟨o, hno, hoo⟩ := opn_t.mp hop
      have hp := nb_pl hd.1 hd.2.1 hd.2.2.1 hd.2.2.2 hc0 hdlt hno
      have hoN : o < mN M := hp.2.2.1
      have hadj : adj (mC M) (mO M) (ord' i) o := by rw [ho']; exact (adj_dir hd.1 hd.2.1 hd.2.2.1 hd.2.2.2 hv hc0).mpr ⟨d, hdlt, hno, hoo⟩
      by_cases hvs : Vs n' ord' o
      · obtain ⟨k, hk, hko⟩ := hvs
        have hl := hx'.2.2.2.1 k hk
        rw [hko] at hl
        refine ⟨(jI ((d + 1 : Nat) : Int), y.2), ⟨rfl, n', ord', prev', len', gn', hS', hx', hi', ho', fun d' hd' o' hno' hoo' => ?_⟩, fun j self => ?_⟩
        · by_cases q : d' = d
          · subst q
            rw [hno] at hno'; cases hno'
            exact ⟨k, hk, hko⟩
          · exact hn' d' (by omega) o' hno' hoo'
        · have hlk := ss_len hS' k hk
          rw [hko] at hlk
          rw [hstep, hop, if_pos rfl, hno, oJ_some, reach3 (show o < 36 by omega) (x := (len' o : Int)) (by omega) hl, bnd_s, ifb, if_pos (decide_eq_true (by omega))]
      · have hl := hx'.2.2.2.2.1 o hoN hvs
        have hS2 := ss_add hS' hi' hoN hadj hvs
        have hn2 := ss_n hS2
        refine ⟨(jI ((d + 1 : Nat) : Int), _), ⟨rfl, n' + 1, set1 ord' n' o, set1 prev' o (ord' i), set1 len' o (len' (ord' i) + 1), set1 gn' o (gn' (ord' i) + gain M o), hS2, wre_add (a := ord i) hS' hx' hi' hoN hvs ho'.symm, by omega, by rw [set1_n (by omega)]; exact ho', fun d' hd' o' hno' hoo' => ?_⟩, fun j self => ?_⟩
        · by_cases q : d' = d
          · subst q
            rw [hno] at hno'; cases hno'
            exact ⟨n', by omega, set1_s⟩
          · exact Vs_add (hn' d' (by omega) o' hno' hoo')
        · rw [hstep, hop, if_pos rfl, hno, oJ_some, reach3 (show o < 36 by omega) (x := -1) (by omega) hl, bnd_s, ifb, if_neg (by simp), reachCell3 h hd hoN hc0 hx'.1 (by omega), bnd_s]
/-- what a search leaves -/
def WQ (M : Mz) (r : Nat) (w : WY) : Prop := ∃ n ord prev len, SS (mC M) (mN M) (mO M) r n n ord prev len ∧ w.1 = jI (n : Nat) ∧ (∀ k, k < n → w.2.1 k = jI (ord k : Nat)) ∧ (∀ k, 0 < k → k < n → w.2.2.1 (ord k) = jI (prev (ord k) : Nat)) ∧
  (∀ c, c < mN M → w.2.2.2.1 c = jI (dst (mC M) (mO M) r c)) ∧ (∀ c, c < mN M → conn (mC M) (mO M) r c → w.2.2.2.2 c = jI (sumL (gain M) (wy (mC M) (mO M) r c)))
theorem wre_wq (hw : WF2 M) (hS : SS (mC M) (mN M) (mO M) r n n ord prev len) (hx : WRe w M r n ord prev len gn) : WQ M r w := by
  obtain ⟨hd, hv, hfo⟩ := hw
  have hrt := ss_rt hS
  obtain ⟨b1, b2, b3, b4, b5, b6, b7, b8⟩ := hx
  refine ⟨n, ord, prev, len, hS, b1, b2, b3, fun c hc => ?_, fun c hc hcn => ?_⟩
  · by_cases q : Vs n ord c
    · obtain ⟨k, hk, rfl⟩ := q
      rw [b4 k hk, dst_rt hd.1 hfo hrt ⟨k, hk, rfl⟩]
    · rw [b5 c hc q, dst_no (fun z => q ((rt_conn hrt).mpr z))]
  · obtain ⟨k, hk, rfl⟩ := (rt_conn hrt).mpr hcn
    rw [b6 k hk, wy_rt hd.1 hfo hrt ⟨k, hk, rfl⟩]
    congr 1
    clear hcn hc
    induction k using Nat.strongRecOn with
    | ind k ih =>
      rcases Nat.eq_zero_or_pos k with rfl | q
      · rw [hS.2.2.1, hS.2.2.2.1, b7]
        simp [pth, sumL]
      · obtain ⟨j, c1, c2, c3, c4⟩ := hS.2.2.2.2.2.2.1 k q hk
        rw [b8 k q hk, c4, c2, ih j c1 (by omega)]
        simp only [pth, sumL, c2]
        omega
theorem findFrom3 (hF : 36 < F) (h : R3 v M) (hw : WF2 M) (hr : r < mN M) : ∃ w', mX6_findFrom F w v (jI (r : Nat)) = some w' ∧ WQ M r w' := by
  have hd := hw.1
  have hN := dm_le hd
  unfold mX6_findFrom
  rw [fill3 hF (by omega), bnd_s, reachCell3_0 (n := 0) h hd hr jl_0 (by omega), bnd_s]
  simp only [jn_e]
  have key := lpr_r (Q := fun w' => WQ M r w') (L := mX6_findFrom_L22 F v mX6_findFrom_K106) (fun i x => x.1 = jI (i : Nat) ∧ ∃ n ord prev len gn, SS (mC M) (mN M) (mO M) r i n ord prev len ∧ WRe x.2 M r n ord prev len gn) 36 (F := F) (x := ((0 : Int32), (jI ((0 + 1 : Nat) : Int), upd w.2.1 0 (jI (r : Nat)), upd w.2.2.1 r (-1 : Int32), upd (mix 36 (fun _ => (-1 : Int32)) w.2.2.2.1) r (0 : Int32), upd w.2.2.2.2 r (jI (gain M r))))) (by
    intro i x hi ⟨hx1, n, ord, prev, len, gn, hS, hx⟩
    have hnN := ss_n hS
    have hin := hS.2.1
    by_cases e : i = n
    · left
      subst e
      refine ⟨x.2, wre_wq hw hS hx, fun self => ?_⟩
      simp only [mX6_findFrom_L22, hx1, hx.1]
      rw [nle_t (Nat.le_refl _) (by omega)]; rfl
    · right
      have hin2 : i < n := by omega
      obtain ⟨y, hy, hyL⟩ := findFrom_in (F := F) (by omega) h hw hS hin2 hx
      obtain ⟨n', ord', prev', len', gn', hS', hx'⟩ := hy
      refine ⟨by omega, (jI ((i + 1 : Nat) : Int), y), ⟨rfl, n', ord', prev', len', gn', hS', hx'⟩, fun self => ?_⟩
      simp only [mX6_findFrom_L22, hx1, hx.1]
      rw [nle_f hin2 (by omega), jl_36, nle_f (show i < 36 by omega) (by omega), at_i (show i < 36 by omega) (by omega), bnd_s, hx.2.1 i hin2]
      simp only [jn_e]
      rw [hyL]
      simp only [mX6_findFrom_K100, hx1, jS]) ⟨jl_0, 1, fun _ => r, fun _ => 0, fun _ => 0, fun _ => gain M r, ⟨by omega, by omega, rfl, rfl, fun _ _ => hr, fun j k hj hk _ => by omega, fun k hk hk1 => by omega, fun k c hk => by omega⟩, ⟨rfl, fun k hk => by
        obtain rfl : k = 0 := by omega
        show upd w.2.1 0 (jI (r : Nat)) 0 = _
        exact upd_s, fun k hk hk1 => by omega, fun k hk => by
        show upd _ r (0 : Int32) r = _
        rw [upd_s]; rfl, fun c hc hn => by
        show upd _ r (0 : Int32) c = _
        have : c ≠ r := by
          rintro rfl
          exact hn ⟨0, by omega, rfl⟩
        rw [upd_n this, mix_lt (by omega), j_m1], fun k hk => by
        show upd _ r _ r = _
        rw [upd_s], rfl, fun k hk hk1 => by omega⟩⟩ hF
  obtain ⟨w', q1, q2⟩ := key
  exact ⟨w', q2, q1⟩
end BF
