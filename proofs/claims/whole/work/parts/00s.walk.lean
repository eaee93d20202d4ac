/-! THE WALK along the right hand -/
def dr (l t : Nat) : Nat := (l + 5 - t) % 4
theorem dr_lt {l t : Nat} : dr l t < 4 := Nat.mod_lt _ (by omega)
def atX (M : Mz) (c d : Nat) : Bool := decide (mX M = c ∧ mXs M = d)
def wdr (M : Mz) (c l : Nat) : Nat := lowF (fun t => opn (mC M) (mN M) (mO M) c (dr l t) || atX M c (dr l t)) 4
/-- the cell to which an open direction leads -/
def nbD (M : Mz) (c d : Nat) : Nat := (nb (mC M) (mN M) c d).getD 0
def wlk (M : Mz) : Nat → Nat → Nat → (Nat → Bool) → (Nat → Nat) → Bool × (Nat → Nat)
  | 0, _, _, _, vis => (false, vis)
  | n + 1, c, l, W, vis => if W (4 * c + l) = true then (false, vis) else
      if wdr M c l < 4 then (if atX M c (dr l (wdr M c l)) = true then (true, set1 vis c (vis c + 1)) else wlk M n (nbD M c (dr l (wdr M c l))) (dr l (wdr M c l)) (set1 W (4 * c + l) true) (set1 vis c (vis c + 1)))
      else (false, set1 vis c (vis c + 1))
def wres (M : Mz) : Bool × (Nat → Nat) := wlk M 145 (mE M) (opp (mEs M)) (fun _ => false) (fun _ => 0)
theorem dr_all : ∀ l t : Fin 4, ((((jI (l.val : Nat) + (1 : Int32)) + (4 : Int32)) - jI (t.val : Nat)) - (((jI (l.val : Nat) + (1 : Int32)) + (4 : Int32)) - jI (t.val : Nat)) / (4 : Int32) * (4 : Int32)) = jI (dr l.val t.val : Nat) := by decide +kernel
theorem dr8_all : ∀ l : Fin 4, ((jI (l.val : Nat) + (1 : Int32)) - (jI (l.val : Nat) + (1 : Int32)) / (4 : Int32) * (4 : Int32)) = jI (dr l.val 0 : Nat) ∧ jI (l.val : Nat) = jI (dr l.val 1 : Nat) ∧ ((jI (l.val : Nat) + (3 : Int32)) - (jI (l.val : Nat) + (3 : Int32)) / (4 : Int32) * (4 : Int32)) = jI (dr l.val 2 : Nat) ∧ ((jI (l.val : Nat) + (2 : Int32)) - (jI (l.val : Nat) + (2 : Int32)) / (4 : Int32) * (4 : Int32)) = jI (dr l.val 3 : Nat) := by decide +kernel
theorem bits_set1 : ∀ a b c d : Bool, ∀ i : Fin 4, jI ((b01 a + 2 * b01 b + 4 * b01 c + 8 * b01 d : Nat) : Int) ||| ((1 : Int32) <<< (jI (i.val : Nat) &&& 31)) = jI ((b01 (if i.val = 0 then true else a) + 2 * b01 (if i.val = 1 then true else b) + 4 * b01 (if i.val = 2 then true else c) + 8 * b01 (if i.val = 3 then true else d) : Nat) : Int) := by decide +kernel
def lkm (W : Nat → Bool) (c : Nat) : Nat := b01 (W (4 * c + 0)) + 2 * b01 (W (4 * c + 1)) + 4 * b01 (W (4 * c + 2)) + 8 * b01 (W (4 * c + 3))
/-- how many are true -/
def cntW (W : Nat → Bool) : Nat → Nat
  | 0 => 0
  | n + 1 => cntW W n + b01 (W n)
theorem cntW_set {W : Nat → Bool} {k : Nat} (hk : W k = false) : ∀ n, cntW (set1 W k true) n = cntW W n + (if k < n then 1 else 0) := by
  intro n
  induction n with
  | zero => rfl
  | succ n ih =>
    simp only [cntW, ih]
    by_cases e : n = k
    · subst e
      rw [set1_s, hk, if_neg (by omega), if_pos (by omega)]; rfl
    · rw [set1_n e]
      by_cases q : k < n
      · rw [if_pos q, if_pos (by omega)]; omega
      · rw [if_neg q, if_neg (by omega)]; omega
theorem cntW_le {W : Nat → Bool} : ∀ n, cntW W n ≤ n := by
  intro n
  induction n with
  | zero => exact Nat.le_refl _
  | succ n ih => simp only [cntW, b01]; split <;> omega
theorem cntW_full {W : Nat → Bool} : ∀ n, cntW W n = n → ∀ k, k < n → W k = true := by
  intro n
  induction n with
  | zero => intro _ k hk; omega
  | succ n ih =>
    intro h k hk
    simp only [cntW, b01] at h
    have := cntW_le (W := W) n
    by_cases q : W n = true
    · rw [if_pos q] at h
      by_cases e : k = n
      · subst e; exact q
      · exact ih (by omega) k (by omega)
    · rw [if_neg q] at h; omega
theorem sN_set {vis : Nat → Nat} {c n : Nat} (hc : c < n) : sN (set1 vis c (vis c + 1)) n = sN vis n + 1 := by
  have e : sN (set1 vis c (vis c + 1)) n = sN (fun x => vis x + (if x = c then 1 else 0)) n := sN_congr (fun x _ => by
    by_cases q : x = c
    · subst q; rw [set1_s, if_pos rfl]
    · rw [set1_n q, if_neg q]; rfl)
  rw [e, sN_add, sN_one, if_pos hc]
theorem jS_c (k : Nat) : jI (k : Int) + jI ((1 : Nat) : Int) = jI ((k + 1 : Nat) : Int) := by rw [jnA]
section WL
variable {v : MZ} {wk : WK} {s : nF} {M : Mz} {c d F n i r x l : Nat} {a b : Int}
theorem dr_e {t : Nat} (hl : l < 4) (ht : t < 4) : ((((jI (l : Nat) + (1 : Int32)) + (4 : Int32)) - jI (t : Nat)) - (((jI (l : Nat) + (1 : Int32)) + (4 : Int32)) - jI (t : Nat)) / (4 : Int32) * (4 : Int32)) = jI (dr l t : Nat) := dr_all ⟨l, hl⟩ ⟨t, ht⟩
theorem look_has {W : Nat → Bool} (hl : l < 4) : ((jI (lkm W c : Nat) &&& ((1 : Int32) <<< (jI (l : Nat) &&& 31))) = 0) = (W (4 * c + l) = false) := by
  have h := bits_has (W (4 * c + 0)) (W (4 * c + 1)) (W (4 * c + 2)) (W (4 * c + 3)) ⟨l, hl⟩
  have e : (if l = 0 then W (4 * c + 0) else if l = 1 then W (4 * c + 1) else if l = 2 then W (4 * c + 2) else W (4 * c + 3)) = W (4 * c + l) := d4 (P := fun l => (if l = 0 then W (4 * c + 0) else if l = 1 then W (4 * c + 1) else if l = 2 then W (4 * c + 2) else W (4 * c + 3)) = W (4 * c + l)) hl rfl rfl rfl rfl
  simp only [e] at h
  cases ho : W (4 * c + l)
  · rw [ho] at h; exact propext ⟨fun _ => rfl, fun _ => of_decide_eq_true h⟩
  · rw [ho] at h; exact propext ⟨fun q => absurd q (of_decide_eq_false h), fun q => by cases q⟩
theorem look_set {W : Nat → Bool} (hl : l < 4) : jI (lkm W c : Nat) ||| ((1 : Int32) <<< (jI (l : Nat) &&& 31)) = jI (lkm (set1 W (4 * c + l) true) c : Nat) := by
  have h := bits_set1 (W (4 * c + 0)) (W (4 * c + 1)) (W (4 * c + 2)) (W (4 * c + 3)) ⟨l, hl⟩
  unfold lkm
  rw [h]
  have : l = 0 ∨ l = 1 ∨ l = 2 ∨ l = 3 := by omega
  rcases this with rfl | rfl | rfl | rfl <;> simp [set1]
theorem lkm_ne {W : Nat → Bool} {c' : Nat} (hl : l < 4) (h : c' ≠ c) : lkm (set1 W (4 * c + l) true) c' = lkm W c' := by
  unfold lkm
  rw [set1_n (by omega), set1_n (by omega), set1_n (by omega), set1_n (by omega)]
theorem come3 {W : Nat → Bool} {vis : Nat → Nat} {q : Nat} (hc : c < 36) (hl : l < 4) (h1 : wk.2.1 = jI (q : Nat)) (h2 : wk.2.2.1 c = jI (vis c : Nat)) (h3 : wk.2.2.2 c = jI (lkm W c : Nat)) :
    mX5_come wk (jI (c : Nat)) (jI (l : Nat)) = some (jI ((q + 1 : Nat) : Int), upd wk.2.2.1 c (jI ((vis c + 1 : Nat) : Int)), upd wk.2.2.2 c (jI (lkm (set1 W (4 * c + l) true) c : Nat))) := by
  unfold mX5_come
  rw [at_i hc (by omega), bnd_s, h3, look_set hl, put_i hc (by omega), bnd_s, at_i hc (by omega), bnd_s, h2, jS, put_i hc (by omega), bnd_s, h1, jS]
theorem turn3 (hF : 4 < F) (h : R3 v M) (hw : WF M) (hc : c < mN M) (hl : l < 4) : mX5_turn F v (jI (c : Nat)) (jI (l : Nat)) = some (if wdr M c l < 4 then jI (dr l (wdr M c l) : Nat) else (-1 : Int32)) := by
  have hd := hw.1
  have hN := dm_le hd
  have hX : mX M < mN M := hw.2.2.2.2.2.1.1
  have hXs : mXs M < 4 := hw.2.2.2.2.2.1.2.1
  unfold mX5_turn
  simp only [jn_e]
  have hst : ∀ i, i < 4 → ∀ self : Int32 → Option Int32, mX5_turn_L2 v (jI (c : Nat)) (jI (l : Nat)) mX5_turn_K39 self (jI (i : Nat)) = if (opn (mC M) (mN M) (mO M) c (dr l i) || atX M c (dr l i)) = true then some (jI (dr l i : Nat)) else self (jI ((i + 1 : Nat) : Int)) := by
    intro i hi self
    simp only [mX5_turn_L2]
    rw [dr_e hl hi]
    rw [show (4 : Int32) = jI ((4 : Nat) : Int) from jl_4, nle_f hi (by omega), gnz (by omega) (by omega)]
    rw [hasP3 h hd hc dr_lt, bnd_s, ifb]
    cases ho : opn (mC M) (mN M) (mO M) c (dr l i)
    · rw [if_neg Bool.noConfusion, jl_1, isDoorAt3 (o := 1) (by omega) h.2.2.2.2.2.1 h.2.2.2.2.2.2.2 (by omega) (by omega) (by omega) (by have := dr_lt (l := l) (t := i); omega), bnd_s, ifb, ← jl_1, jS]
      rfl
    · rfl
  have key := lpr_r (Q := fun z : Int32 => z = if wdr M c l < 4 then jI (dr l (wdr M c l) : Nat) else (-1 : Int32)) (L := mX5_turn_L2 v (jI (c : Nat)) (jI (l : Nat)) mX5_turn_K39) (F := F) (fun i y => y = jI (i : Nat) ∧ ∀ d, d < i → (opn (mC M) (mN M) (mO M) c (dr l d) || atX M c (dr l d)) = false) 4 (x := (0 : Int32)) (by
    intro i y hi ⟨hy, hn⟩
    subst hy
    by_cases e : i = 4
    · left
      subst e
      refine ⟨(-1 : Int32), ?_, fun self => ?_⟩
      · have : ¬ wdr M c l < 4 := by
          intro z
          have g := (lowF_spec (f := fun t => opn (mC M) (mN M) (mO M) c (dr l t) || atX M c (dr l t)) 4).1 z
          have g2 := hn _ z
          have g : (opn (mC M) (mN M) (mO M) c (dr l (wdr M c l)) || atX M c (dr l (wdr M c l))) = true := g
          rw [g2] at g; cases g
        rw [if_neg this]
      · simp only [mX5_turn_L2, jl_4]
        rw [nle_t (Nat.le_refl _) (by omega)]
    · have hi4 : i < 4 := by omega
      cases q : (opn (mC M) (mN M) (mO M) c (dr l i) || atX M c (dr l i)) with
      | true =>
        left
        refine ⟨jI (dr l i : Nat), ?_, fun self => by rw [hst i hi4, q, if_pos rfl]⟩
        have : wdr M c l = i := lowF_eq hi4 q (fun k hk hkt => by
          apply Classical.byContradiction
          intro z
          have := hn k (by omega)
          rw [this] at hkt; cases hkt)
        rw [this, if_pos hi4]
      | false =>
        right
        refine ⟨hi4, jI ((i + 1 : Nat) : Int), ⟨rfl, fun d hd => ?_⟩, fun self => by rw [hst i hi4, q, if_neg Bool.noConfusion]⟩
        by_cases z : d = i
        · subst z; exact q
        · exact hn d (by omega)) ⟨jl_0, fun d hd => by omega⟩ hF
  obtain ⟨z, z1, z2⟩ := key
  rw [z2, z1]
theorem atX_nopn (hw : WF M) (h : atX M c d = true) : opn (mC M) (mN M) (mO M) c d = false := by
  obtain ⟨h1, h2⟩ := of_decide_eq_true h
  have := hw.2.2.2.2.2.1.2.2
  rw [h1, h2] at this
  unfold opn
  rw [this]; rfl
theorem wdr_opn (h1 : wdr M c l < 4) (h2 : ¬ atX M c (dr l (wdr M c l)) = true) : opn (mC M) (mN M) (mO M) c (dr l (wdr M c l)) = true := by
  have g : (opn (mC M) (mN M) (mO M) c (dr l (wdr M c l)) || atX M c (dr l (wdr M c l))) = true := (lowF_spec (f := fun t => opn (mC M) (mN M) (mO M) c (dr l t) || atX M c (dr l t)) 4).1 h1
  rcases Bool.or_eq_true_iff.mp g with q | q
  · exact q
  · exact absurd q h2
theorem opp_e (hEs : mEs M < 4) : mX5_opposite (jI (mEs M : Nat)) = some (jI (opp (mEs M) : Nat)) := by
  unfold mX5_opposite
  rw [gn4, opp8 hEs]
theorem take3 (hF : 144 < F) (h : R3 v M) (hw : WF M) : ∃ z, mX5_take F wk v = some z ∧ z.1 = bI (!(wres M).1) ∧ z.2.1 = jI (sN (wres M).2 (mN M) : Nat) ∧ (∀ c, c < mN M → z.2.2.1 c = jI ((wres M).2 c : Nat)) ∧ (∀ c, (wres M).2 c ≤ 145) := by
  have hd := hw.1
  have hN := dm_le hd
  have hE : mE M < mN M := hw.2.2.2.2.1.1
  have hEs : mEs M < 4 := hw.2.2.2.2.1.2.1
  have hX : mX M < mN M := hw.2.2.2.2.2.1.1
  have hXs : mXs M < 4 := hw.2.2.2.2.2.1.2.1
  unfold mX5_take
  rw [fill3 (by omega) (by omega), bnd_s, fill3 (by omega) (by omega), bnd_s, gz1, entry3 h, bnd_s, jl_0, at_i (by omega) (by omega), bnd_s, h.2.2.2.2.2.2.1, opp_e hEs, bnd_s]
  have key := lpr_r (Q := fun z : WK => z.1 = bI (!(wres M).1) ∧ z.2.1 = jI (sN (wres M).2 (mN M) : Nat) ∧ (∀ c, c < mN M → z.2.2.1 c = jI ((wres M).2 c : Nat)) ∧ (∀ c, (wres M).2 c ≤ 145)) (L := mX5_take_L46 F v) (F := F)
    (fun i y => ∃ c l W vis, y.1 = jI (c : Nat) ∧ y.2.1 = jI (l : Nat) ∧ c < mN M ∧ l < 4 ∧ y.2.2.1 = jI (i : Nat) ∧ y.2.2.2.1 = jI (sN vis (mN M) : Nat) ∧ (∀ c, c < mN M → y.2.2.2.2.1 c = jI (vis c : Nat)) ∧ (∀ c, c < mN M → y.2.2.2.2.2 c = jI (lkm W c : Nat)) ∧ wlk M (145 - i) c l W vis = wres M ∧ cntW W 144 = i ∧ ∀ c, vis c ≤ i) 144
    (x := (jI (mE M : Nat), jI (opp (mEs M) : Nat), jI ((0 : Nat) : Int), jI ((0 : Nat) : Int), mix 36 (fun _ => jI ((0 : Nat) : Int)) wk.2.2.1, mix 36 (fun _ => jI ((0 : Nat) : Int)) wk.2.2.2)) (by
    intro i y hi ⟨c, l, W, vis, y1, y2, hc, hl, y3, y4, y5, y6, hwk, hcW, hvi⟩
    have hu : wlk M (145 - i) c l W vis = if W (4 * c + l) = true then (false, vis) else
      if wdr M c l < 4 then (if atX M c (dr l (wdr M c l)) = true then (true, set1 vis c (vis c + 1)) else wlk M (145 - (i + 1)) (nbD M c (dr l (wdr M c l))) (dr l (wdr M c l)) (set1 W (4 * c + l) true) (set1 vis c (vis c + 1)))
      else (false, set1 vis c (vis c + 1)) := by
      rw [show 145 - i = (145 - (i + 1)) + 1 by omega]; rfl
    rw [hwk] at hu
    have hstep : ∀ self, mX5_take_L46 F v self y = if W (4 * c + l) = true then some ((1 : Int32), y.2.2.2.1, y.2.2.2.2.1, y.2.2.2.2.2) else
        if wdr M c l < 4 then (if atX M c (dr l (wdr M c l)) = true then some ((0 : Int32), jI ((sN vis (mN M) + 1 : Nat) : Int), upd y.2.2.2.2.1 c (jI ((vis c + 1 : Nat) : Int)), upd y.2.2.2.2.2 c (jI (lkm (set1 W (4 * c + l) true) c : Nat))) else (mX3_beside v (jI (c : Nat)) (jI (dr l (wdr M c l) : Nat))).bind fun r12 => self (r12, jI (dr l (wdr M c l) : Nat), jI ((i + 1 : Nat) : Int), jI ((sN vis (mN M) + 1 : Nat) : Int), upd y.2.2.2.2.1 c (jI ((vis c + 1 : Nat) : Int)), upd y.2.2.2.2.2 c (jI (lkm (set1 W (4 * c + l) true) c : Nat)))) else some ((1 : Int32), jI ((sN vis (mN M) + 1 : Nat) : Int), upd y.2.2.2.2.1 c (jI ((vis c + 1 : Nat) : Int)), upd y.2.2.2.2.2 c (jI (lkm (set1 W (4 * c + l) true) c : Nat))) := by
      intro self
      simp only [mX5_take_L46, y1, y2, y3]
      rw [jl_144, nlt_f hi (by omega), at_i (by omega) (by omega), bnd_s, y6 c hc]
      by_cases q : W (4 * c + l) = true
      · rw [if_neg (by rw [look_has hl, q]; exact Bool.noConfusion), if_pos q]
      · rw [if_pos (by rw [look_has hl]; simpa using q), if_neg q]
        rw [come3 (wk := ((1 : Int32), y.2.2.2.1, y.2.2.2.2.1, y.2.2.2.2.2)) (W := W) (vis := vis) (q := sN vis (mN M)) (by omega) hl y4 (y5 c hc) (y6 c hc), bnd_s, turn3 (by omega) h hw hc hl, bnd_s]
        by_cases q2 : wdr M c l < 4
        · have hdl := dr_lt (l := l) (t := wdr M c l)
          rw [if_pos q2, if_pos q2, if_neg (by rw [nem1 (by omega)]; exact id), show jI (dr l (wdr M c l) : Nat) = jI (dr l (wdr M c l) : Nat) from rfl]
          rw [show (1 : Int32) = jI ((1 : Nat) : Int) from jl_1, isDoorAt3 (o := 1) (by omega) h.2.2.2.2.2.1 h.2.2.2.2.2.2.2 (by omega) (by omega) (by omega) (by omega), bnd_s, ifb, jS_c]
          show (if atX M c (dr l (wdr M c l)) = true then _ else _) = _
          rfl
        · rw [if_neg q2, if_neg q2, if_pos rfl]
    by_cases q : W (4 * c + l) = true
    · left
      rw [if_pos q] at hu
      refine ⟨((1 : Int32), y.2.2.2.1, y.2.2.2.2.1, y.2.2.2.2.2), ⟨by rw [hu]; rfl, by rw [hu]; exact y4, by rw [hu]; exact y5, fun c' => by rw [hu]; have := hvi c'; show vis c' ≤ 145; omega⟩, fun self => by rw [hstep, if_pos q]⟩
    · rw [if_neg q] at hu
      have hi144 : i < 144 := by
        apply Classical.byContradiction
        intro z
        have : i = 144 := by omega
        exact q (cntW_full 144 (by omega) (4 * c + l) (by omega))
      have hvis : ∀ c', c' < mN M → upd y.2.2.2.2.1 c (jI ((vis c + 1 : Nat) : Int)) c' = jI (set1 vis c (vis c + 1) c' : Nat) := by
        intro c' hc'
        by_cases e : c' = c
        · subst e; rw [upd_s, set1_s]
        · rw [upd_n e, set1_n e]; exact y5 c' hc'
      have hvb : ∀ c', set1 vis c (vis c + 1) c' ≤ i + 1 := by
        intro c'
        have := hvi c'
        have := hvi c
        by_cases e : c' = c
        · subst e; rw [set1_s]; omega
        · rw [set1_n e]; omega
      by_cases q2 : wdr M c l < 4
      · rw [if_pos q2] at hu
        by_cases q3 : atX M c (dr l (wdr M c l)) = true
        · left
          rw [if_pos q3] at hu
          exact ⟨((0 : Int32), jI ((sN vis (mN M) + 1 : Nat) : Int), upd y.2.2.2.2.1 c (jI ((vis c + 1 : Nat) : Int)), upd y.2.2.2.2.2 c (jI (lkm (set1 W (4 * c + l) true) c : Nat))), ⟨by rw [hu]; rfl, by rw [hu, sN_set hc], by rw [hu]; exact hvis, fun c' => by rw [hu]; have := hvb c'; show set1 vis c (vis c + 1) c' ≤ 145; omega⟩, fun self => by rw [hstep, if_neg q, if_pos q2, if_pos q3]⟩
        · right
          rw [if_neg q3] at hu
          obtain ⟨o, ho1, ho2⟩ := opn_t.mp (wdr_opn q2 q3)
          have hoN := (num_lt hd hc dr_lt ho1).2
          have hnb : nbD M c (dr l (wdr M c l)) = o := by unfold nbD; rw [ho1]; rfl
          rw [hnb] at hu
          refine ⟨hi144, _, ⟨o, dr l (wdr M c l), set1 W (4 * c + l) true, set1 vis c (vis c + 1), ?_⟩, fun self => by rw [hstep, if_neg q, if_pos q2, if_neg q3, beside3 h hd hc dr_lt, bnd_s, ho1]⟩
          refine ⟨rfl, rfl, hoN, dr_lt, rfl, by rw [sN_set hc], hvis, fun c' hc' => ?_, hu.symm, ?_, hvb⟩
          · show upd y.2.2.2.2.2 c _ c' = _
            by_cases e : c' = c
            · subst e; rw [upd_s]
            · rw [upd_n e, lkm_ne hl e]; exact y6 c' hc'
          · rw [cntW_set (by simpa using q), hcW, if_pos (by omega)]
      · left
        rw [if_neg q2] at hu
        exact ⟨((1 : Int32), jI ((sN vis (mN M) + 1 : Nat) : Int), upd y.2.2.2.2.1 c (jI ((vis c + 1 : Nat) : Int)), upd y.2.2.2.2.2 c (jI (lkm (set1 W (4 * c + l) true) c : Nat))), ⟨by rw [hu]; rfl, by rw [hu, sN_set hc], by rw [hu]; exact hvis, fun c' => by rw [hu]; have := hvb c'; show set1 vis c (vis c + 1) c' ≤ 145; omega⟩, fun self => by rw [hstep, if_neg q, if_neg q2]⟩) ⟨mE M, opp (mEs M), fun _ => false, fun _ => 0, rfl, rfl, hE, opp_lt, rfl, by
      have : ∀ n, sN (fun _ => 0) n = 0 := by
        intro n
        induction n with
        | zero => rfl
        | succ n ih => simp only [sN, ih]
      rw [this], fun c hc => by
      show mix 36 (fun _ => jI ((0 : Nat) : Int)) wk.2.2.1 c = jI ((0 : Nat) : Int)
      exact mix_lt (by omega), fun c hc => by
      show mix 36 (fun _ => jI ((0 : Nat) : Int)) wk.2.2.2 c = jI ((0 : Nat) : Int)
      exact mix_lt (by omega), rfl, by
      have : ∀ n, cntW (fun _ => false) n = 0 := by
        intro n
        induction n with
        | zero => rfl
        | succ n ih => simp only [cntW, ih]; rfl
      exact this 144, fun c => Nat.le_refl 0⟩ hF
  obtain ⟨z, z1, z2⟩ := key
  exact ⟨z, z2, z1⟩
/-- the inner loop of the reference's walk -/
theorem walks_in8 (hF : 4 < F) (h : R8 s M) (hw : WF M) (hc : c < mN M) (hl : l < 4) {x5 : Int32 × Int32 × nF × nF} (h1 : x5.1 = jI (c : Nat)) (h2 : x5.2.1 = jI (l : Nat)) (j8 : Int32 → Option (Int32 × nF × nF)) :
    lpr (mX8_walks_L100 s x5 j8) F ((-1 : Int32), (0 : Int32)) = if wdr M c l < 4 then (if atX M c (dr l (wdr M c l)) = true then some ((1 : Int32), upd x5.2.2.1 c (x5.2.2.1 c + (1 : Int32)), upd x5.2.2.2 (4 * c + l) (vp_nar .boolean (1 : Int32))) else j8 (jI (dr l (wdr M c l) : Nat))) else j8 (-1 : Int32) := by
  have hd := hw.1
  have hN := dm_le hd
  have hX : mX M < mN M := hw.2.2.2.2.2.1.1
  have hXs : mXs M < 4 := hw.2.2.2.2.2.1.2.1
  have hst : ∀ i, i < 4 → ∀ self : (Int32 × Int32) → Option (Int32 × nF × nF), mX8_walks_L100 s x5 j8 self ((-1 : Int32), jI (i : Nat)) = if atX M c (dr l i) = true then some ((1 : Int32), upd x5.2.2.1 c (x5.2.2.1 c + (1 : Int32)), upd x5.2.2.2 (4 * c + l) (vp_nar .boolean (1 : Int32))) else self ((if opn (mC M) (mN M) (mO M) c (dr l i) = true then jI (dr l i : Nat) else (-1 : Int32)), jI ((i + 1 : Nat) : Int)) := by
    intro i hi self
    have hdl := dr_lt (l := l) (t := i)
    obtain ⟨g0, g1, g2, g3⟩ := dr8_all ⟨l, hl⟩
    have g0 : ((jI (l : Nat) + (1 : Int32)) - (jI (l : Nat) + (1 : Int32)) / (4 : Int32) * (4 : Int32)) = jI (dr l 0 : Nat) := g0
    have g1 : jI (l : Nat) = jI (dr l 1 : Nat) := g1
    have g2 : ((jI (l : Nat) + (3 : Int32)) - (jI (l : Nat) + (3 : Int32)) / (4 : Int32) * (4 : Int32)) = jI (dr l 2 : Nat) := g2
    have g3 : ((jI (l : Nat) + (2 : Int32)) - (jI (l : Nat) + (2 : Int32)) / (4 : Int32) * (4 : Int32)) = jI (dr l 3 : Nat) := g3
    have hfin : ∀ x12 : Int32, x12 = jI (dr l i : Nat) → (gd (inb (4 : Int32) 114) (jn (fun x14 : Unit => (mX8_isOpen s x5.1 x12).bind fun r16 => jn (fun x17 : Int32 => self (x17, jI (i : Nat) + (1 : Int32))) (fun j18 => if r16 = 0 then (j18 (-1 : Int32)) else (j18 x12))) (fun j15 => if x5.1 = (s (4 : Int32).toNatClampNeg) then (gd (inb (5 : Int32) 114) (if x12 = (s (5 : Int32).toNatClampNeg) then (gd (zb (1 : Int32)) (some ((1 : Int32), (upd x5.2.2.1 x5.1.toNatClampNeg ((x5.2.2.1 x5.1.toNatClampNeg) + (1 : Int32))), (upd x5.2.2.2 (((4 : Int32) * x5.1) + x5.2.1).toNatClampNeg (vp_nar .boolean (1 : Int32)))))) else (j15 ()))) else (j15 ())))) = if atX M c (dr l i) = true then some ((1 : Int32), upd x5.2.2.1 c (x5.2.2.1 c + (1 : Int32)), upd x5.2.2.2 (4 * c + l) (vp_nar .boolean (1 : Int32))) else self ((if opn (mC M) (mN M) (mO M) c (dr l i) = true then jI (dr l i : Nat) else (-1 : Int32)), jI ((i + 1 : Nat) : Int)) := by
      intro x12 hx
      subst hx
      simp only [gl4, jn_e, cl4, gl5, cl5, gz1, h1, h2, h.2.2.2.2.1, h.2.2.2.2.2.1, j4m, jnA, jcl c (show c < 2147483648 by omega), jcl (4 * c + l) (show 4 * c + l < 2147483648 by omega), isOpen8 h hd hc hdl, bnd_s, ifb, jS]
      unfold atX
      by_cases e : mX M = c
      · rw [neq_t e.symm]
        by_cases e2 : mXs M = dr l i
        · rw [neq_t e2.symm, if_pos (decide_eq_true ⟨e, e2⟩)]
        · rw [neq_f (fun z => e2 z.symm) (by omega) (by omega), if_neg (show ¬ (decide (mX M = c ∧ mXs M = dr l i) = true) by rw [decide_eq_false (fun z => e2 z.2)]; exact Bool.noConfusion)]
          by_cases ho : opn (mC M) (mN M) (mO M) c (dr l i) = true
          · rw [if_pos ho, if_pos ho]
          · rw [if_neg ho, if_neg ho]
      · rw [neq_f (fun z => e z.symm) (by omega) (by omega), if_neg (show ¬ (decide (mX M = c ∧ mXs M = dr l i) = true) by rw [decide_eq_false (fun z => e z.1)]; exact Bool.noConfusion)]
        by_cases ho : opn (mC M) (mN M) (mO M) c (dr l i) = true
        · rw [if_pos ho, if_pos ho]
        · rw [if_neg ho, if_neg ho]
    have hfin2 := hfin
    simp only [jn_e] at hfin2
    simp only [mX8_walks_L100, jn_e, gn4]
    rw [show (4 : Int32) = jI ((4 : Nat) : Int) from jl_4, nle_f hi (by omega), ← jl_4, if_neg (by decide)]
    have hi' : i = 0 ∨ i = 1 ∨ i = 2 ∨ i = 3 := by omega
    rcases hi' with rfl | rfl | rfl | rfl
    · rw [if_pos (by decide)]
      exact hfin2 _ (by rw [h2]; exact g0)
    · rw [if_neg (by decide), if_pos (by decide)]
      exact hfin2 _ (by rw [h2]; exact g1)
    · rw [if_neg (by decide), if_neg (by decide), if_pos (by decide)]
      exact hfin2 _ (by rw [h2]; exact g2)
    · rw [if_neg (by decide), if_neg (by decide), if_neg (by decide)]
      exact hfin2 _ (by rw [h2]; exact g3)
  have hlow := lowF_spec (f := fun t => opn (mC M) (mN M) (mO M) c (dr l t) || atX M c (dr l t)) 4
  have hlow1 : wdr M c l < 4 → (opn (mC M) (mN M) (mO M) c (dr l (wdr M c l)) || atX M c (dr l (wdr M c l))) = true := hlow.1
  have hlow2 : wdr M c l ≤ 4 := hlow.2.1
  have hlow3 : ∀ t, t < wdr M c l → (opn (mC M) (mN M) (mO M) c (dr l t) || atX M c (dr l t)) = false := hlow.2.2
  refine lpr_to (E := fun e => e = if wdr M c l < 4 then (if atX M c (dr l (wdr M c l)) = true then some ((1 : Int32), upd x5.2.2.1 c (x5.2.2.1 c + (1 : Int32)), upd x5.2.2.2 (4 * c + l) (vp_nar .boolean (1 : Int32))) else j8 (jI (dr l (wdr M c l) : Nat))) else j8 (-1 : Int32)) (L := mX8_walks_L100 s x5 j8)
    (fun i y => y.2 = jI (i : Nat) ∧ (y.1 = (-1 : Int32) ∧ i ≤ wdr M c l ∨ i = wdr M c l + 1 ∧ wdr M c l < 4 ∧ y.1 = jI (dr l (wdr M c l) : Nat) ∧ ¬ atX M c (dr l (wdr M c l)) = true)) 4 ?_ F 0 _ ⟨jl_0, Or.inl ⟨rfl, by omega⟩⟩ (by omega) (by omega)
  rintro i ⟨y1, y2⟩ hi ⟨hy2, hy⟩
  have hy2 : y2 = jI (i : Nat) := hy2
  subst hy2
  rcases hy with ⟨e1, e2⟩ | ⟨e1, e2, e3, e4⟩
  · have e1 : y1 = (-1 : Int32) := e1
    subst e1
    by_cases e : i = 4
    · left
      subst e
      refine ⟨j8 (-1 : Int32), by rw [if_neg (by omega)], fun self => ?_⟩
      simp only [mX8_walks_L100]
      rw [if_pos (by decide)]
    · have hi4 : i < 4 := by omega
      by_cases q : i = wdr M c l
      · have hor := hlow1 (by omega)
        rw [← q] at hor
        by_cases qx : atX M c (dr l i) = true
        · left
          exact ⟨_, by rw [← q, if_pos hi4, if_pos qx], fun self => by rw [hst i hi4, if_pos qx]⟩
        · right
          have ho : opn (mC M) (mN M) (mO M) c (dr l i) = true := by
            rcases Bool.or_eq_true_iff.mp hor with z | z
            · exact z
            · exact absurd z qx
          exact ⟨by omega, (jI (dr l i : Nat), jI ((i + 1 : Nat) : Int)), ⟨rfl, Or.inr ⟨by omega, by omega, by rw [← q], by rw [← q]; exact qx⟩⟩, fun self => by rw [hst i hi4, if_neg qx, if_pos ho]⟩
      · right
        have hno := hlow3 i (by omega)
        obtain ⟨n1, n2⟩ := Bool.or_eq_false_iff.mp hno
        exact ⟨by omega, ((-1 : Int32), jI ((i + 1 : Nat) : Int)), ⟨rfl, Or.inl ⟨rfl, by omega⟩⟩, fun self => by rw [hst i hi4, if_neg (by rw [n2]; exact Bool.noConfusion), if_neg (by rw [n1]; exact Bool.noConfusion)]⟩
  · left
    have e3 : y1 = jI (dr l (wdr M c l) : Nat) := e3
    subst e3
    have hdl := dr_lt (l := l) (t := wdr M c l)
    refine ⟨j8 (jI (dr l (wdr M c l) : Nat)), by rw [if_pos e2, if_neg e4], fun self => ?_⟩
    simp only [mX8_walks_L100]
    rw [if_pos (show (0 : Int32) ≤ jI (dr l (wdr M c l) : Nat) by rw [n0l (by omega)]; trivial)]
    split <;> rfl
theorem walks8 {vi ws : nF} (hF : 145 < F) (h : R8 s M) (hw : WF M) : ∃ z, mX8_walks F s vi ws = some z ∧ z.1 = bI (wres M).1 ∧ ∀ c, c < mN M → z.2.1 c = jI ((wres M).2 c : Nat) := by
  have hd := hw.1
  have hN := dm_le hd
  have hE : mE M < mN M := hw.2.2.2.2.1.1
  have hEs : mEs M < 4 := hw.2.2.2.2.1.2.1
  unfold mX8_walks
  simp only [jn_e]
  have h1 := lpr_fn (L := mX8_walks_L2 (mX8_walks_K21 F s ws)) (e := mX8_walks_K21 F s ws (mix 36 (fun _ => (0 : Int32)) vi)) (F := F) (fun i => (jI (i : Nat), mix i (fun _ => (0 : Int32)) vi)) 36 (by
    intro i hi self
    simp only [mX8_walks_L2, jl_36]
    rw [nle_f hi (by omega), gdi hi (by omega), jcl _ (by omega), jS, mix_S (f := fun _ => (0 : Int32))]) (by
    intro self
    simp only [mX8_walks_L2, jl_36]
    rw [nle_t (Nat.le_refl _) (by omega)]) (by omega)
  simp only [mix_0] at h1
  have h1' : lpr (mX8_walks_L2 (mX8_walks_K21 F s ws)) F ((0 : Int32), vi) = _ := h1
  rw [h1']
  simp only [mX8_walks_K21, jn_e]
  have h2 := lpr_fn (L := mX8_walks_L23 (mX8_walks_K43 F s (mix 36 (fun _ => (0 : Int32)) vi))) (e := mX8_walks_K43 F s (mix 36 (fun _ => (0 : Int32)) vi) (mix 144 (fun _ => jI ((b01 false : Nat) : Int)) ws)) (F := F) (fun i => (jI (i : Nat), mix i (fun _ => jI ((b01 false : Nat) : Int)) ws)) 144 (by
    intro i hi self
    simp only [mX8_walks_L23, jl_144]
    rw [nle_f hi (by omega), gdi hi (by omega), jcl _ (by omega), jS, nar0, mix_S (f := fun _ => jI ((b01 false : Nat) : Int))]) (by
    intro self
    simp only [mX8_walks_L23, jl_144]
    rw [nle_t (Nat.le_refl _) (by omega)]) (by omega)
  simp only [mix_0] at h2
  have h2' : lpr (mX8_walks_L23 (mX8_walks_K43 F s (mix 36 (fun _ => (0 : Int32)) vi))) F ((0 : Int32), ws) = _ := h2
  rw [h2']
  simp only [mX8_walks_K43, gl2, gl3, gn4, cl2, cl3, h.2.2.1, h.2.2.2.1, opp8 hEs]
  have key := lpr_r (Q := fun z : Int32 × nF × nF => z.1 = bI (wres M).1 ∧ ∀ c, c < mN M → z.2.1 c = jI ((wres M).2 c : Nat)) (L := mX8_walks_L61 F s) (F := F)
    (fun i y => ∃ c l W vis, y.1 = jI (c : Nat) ∧ y.2.1 = jI (l : Nat) ∧ c < mN M ∧ l < 4 ∧ (∀ c, c < mN M → y.2.2.1 c = jI (vis c : Nat)) ∧ (∀ k, k < 144 → y.2.2.2 k = jI (b01 (W k) : Nat)) ∧ wlk M (145 - i) c l W vis = wres M ∧ cntW W 144 = i) 144
    (x := (jI (mE M : Nat), jI (opp (mEs M) : Nat), mix 36 (fun _ => (0 : Int32)) vi, mix 144 (fun _ => jI ((b01 false : Nat) : Int)) ws)) (by
    intro i y hi ⟨c, l, W, vis, y1, y2, hc, hl, y5, y6, hwk, hcW⟩
    have hu : wlk M (145 - i) c l W vis = if W (4 * c + l) = true then (false, vis) else
      if wdr M c l < 4 then (if atX M c (dr l (wdr M c l)) = true then (true, set1 vis c (vis c + 1)) else wlk M (145 - (i + 1)) (nbD M c (dr l (wdr M c l))) (dr l (wdr M c l)) (set1 W (4 * c + l) true) (set1 vis c (vis c + 1)))
      else (false, set1 vis c (vis c + 1)) := by
      rw [show 145 - i = (145 - (i + 1)) + 1 by omega]; rfl
    rw [hwk] at hu
    have hstep : ∀ self, mX8_walks_L61 F s self y = if W (4 * c + l) = true then some ((0 : Int32), y.2.2.1, y.2.2.2) else
        if wdr M c l < 4 then (if atX M c (dr l (wdr M c l)) = true then some ((1 : Int32), upd y.2.2.1 c (jI ((vis c + 1 : Nat) : Int)), upd y.2.2.2 (4 * c + l) (jI (b01 true : Nat))) else (mX8_besides s (jI (c : Nat)) (jI (dr l (wdr M c l) : Nat))).bind fun r12 => self (r12, jI (dr l (wdr M c l) : Nat), upd y.2.2.1 c (jI ((vis c + 1 : Nat) : Int)), upd y.2.2.2 (4 * c + l) (jI (b01 true : Nat)))) else some ((0 : Int32), upd y.2.2.1 c (jI ((vis c + 1 : Nat) : Int)), upd y.2.2.2 (4 * c + l) (jI (b01 true : Nat))) := by
      intro self
      simp only [mX8_walks_L61, y1, y2, j4m, jnA]
      rw [gdi (by omega) (by omega), jcl _ (by omega), y6 _ (by omega)]
      by_cases q : W (4 * c + l) = true
      · rw [if_neg (by rw [q]; decide), if_pos q, gz0]
      · rw [if_pos (by rw [b01_0]; simpa using q), if_neg q, gdi (by omega) (by omega), gdi (by omega) (by omega), gdi (by omega) (by omega)]
        simp only [jn_e]
        rw [walks_in8 (by omega) h hw hc hl y1 y2, y5 c hc, jS, nar1]
        by_cases q2 : wdr M c l < 4
        · have hdl := dr_lt (l := l) (t := wdr M c l)
          rw [if_pos q2, if_pos q2]
          by_cases q3 : atX M c (dr l (wdr M c l)) = true
          · rw [if_pos q3, if_pos q3]
          · rw [if_neg q3, if_neg q3]
            simp only [mX8_walks_K200, y1, y2, j4m, jnA, jcl c (show c < 2147483648 by omega), jcl (4 * c + l) (show 4 * c + l < 2147483648 by omega), y5 c hc, jS, nar1]
            rw [if_pos (show (0 : Int32) ≤ jI (dr l (wdr M c l) : Nat) by rw [n0l (by omega)]; trivial)]
        · rw [if_neg q2, if_neg q2]
          simp only [mX8_walks_K200, y1, y2, j4m, jnA, jcl c (show c < 2147483648 by omega), jcl (4 * c + l) (show 4 * c + l < 2147483648 by omega), y5 c hc, jS, nar1]
          rw [if_neg (by decide), gz0]
    by_cases q : W (4 * c + l) = true
    · left
      rw [if_pos q] at hu
      refine ⟨((0 : Int32), y.2.2.1, y.2.2.2), ⟨by rw [hu]; rfl, by rw [hu]; exact y5⟩, fun self => by rw [hstep, if_pos q]⟩
    · rw [if_neg q] at hu
      have hi144 : i < 144 := by
        apply Classical.byContradiction
        intro z
        have : i = 144 := by omega
        exact q (cntW_full 144 (by omega) (4 * c + l) (by omega))
      have hvis : ∀ c', c' < mN M → upd y.2.2.1 c (jI ((vis c + 1 : Nat) : Int)) c' = jI (set1 vis c (vis c + 1) c' : Nat) := by
        intro c' hc'
        by_cases e : c' = c
        · subst e; rw [upd_s, set1_s]
        · rw [upd_n e, set1_n e]; exact y5 c' hc'
      by_cases q2 : wdr M c l < 4
      · rw [if_pos q2] at hu
        by_cases q3 : atX M c (dr l (wdr M c l)) = true
        · left
          rw [if_pos q3] at hu
          exact ⟨((1 : Int32), upd y.2.2.1 c (jI ((vis c + 1 : Nat) : Int)), upd y.2.2.2 (4 * c + l) (jI (b01 true : Nat))), ⟨by rw [hu]; rfl, by rw [hu]; exact hvis⟩, fun self => by rw [hstep, if_neg q, if_pos q2, if_pos q3]⟩
        · right
          rw [if_neg q3] at hu
          obtain ⟨o, ho1, ho2⟩ := opn_t.mp (wdr_opn q2 q3)
          have hoN := (num_lt hd hc dr_lt ho1).2
          have hnb : nbD M c (dr l (wdr M c l)) = o := by unfold nbD; rw [ho1]; rfl
          rw [hnb] at hu
          refine ⟨hi144, (jI (o : Nat), jI (dr l (wdr M c l) : Nat), upd y.2.2.1 c (jI ((vis c + 1 : Nat) : Int)), upd y.2.2.2 (4 * c + l) (jI (b01 true : Nat))), ⟨o, dr l (wdr M c l), set1 W (4 * c + l) true, set1 vis c (vis c + 1), ?_⟩, fun self => by rw [hstep, if_neg q, if_pos q2, if_neg q3, besides8 h hd hc dr_lt, bnd_s, ho1]; rfl⟩
          refine ⟨rfl, rfl, hoN, dr_lt, hvis, fun k hk => ?_, hu.symm, ?_⟩
          · show upd y.2.2.2 (4 * c + l) _ k = _
            by_cases e : k = 4 * c + l
            · subst e; rw [upd_s, set1_s]
            · rw [upd_n e, set1_n e]; exact y6 k hk
          · rw [cntW_set (by simpa using q), hcW, if_pos (by omega)]
      · left
        rw [if_neg q2] at hu
        exact ⟨((0 : Int32), upd y.2.2.1 c (jI ((vis c + 1 : Nat) : Int)), upd y.2.2.2 (4 * c + l) (jI (b01 true : Nat))), ⟨by rw [hu]; rfl, by rw [hu]; exact hvis⟩, fun self => by rw [hstep, if_neg q, if_neg q2]⟩) ⟨mE M, opp (mEs M), fun _ => false, fun _ => 0, rfl, rfl, hE, opp_lt, fun c hc => by
      show mix 36 (fun _ => (0 : Int32)) vi c = jI ((0 : Nat) : Int)
      rw [mix_lt (by omega)]; rfl, fun k hk => by
      show mix 144 (fun _ => jI ((b01 false : Nat) : Int)) ws k = jI ((b01 false : Nat) : Int)
      exact mix_lt hk, rfl, by
      have : ∀ n, cntW (fun _ => false) n = 0 := by
        intro n
        induction n with
        | zero => rfl
        | succ n ih => simp only [cntW, ih]; rfl
      exact this 144⟩ (by omega)
  obtain ⟨z, z1, z2⟩ := key
  exact ⟨z, z2, z1⟩
end WL
