/-! READING of a picture on both sides -/
section RD
variable {pt : PT} {text s : nF} {ch : Nat → Nat} {L F k : Nat} {a : Int} {v : MZ}
def PC8 (ch : Nat → Nat) (L : Nat) (z : Int32 × Int32 × Int32 × Int32 × Int32) : Prop := z.1 = bI (decide ((fin ch L).1 = 0)) ∧ ((fin ch L).1 ≠ 0 → z.2.1 = jI ((fin ch L).2 : Nat) ∧ z.2.2.1 = jI ((fin ch L).1 : Nat)) ∧ ((fin ch L).1 = 0 → z.2.2.2.1 = jI ((scn ch L).2.2.1 : Nat) ∧ z.2.2.2.2 = jI ((scn ch L).2.2.2.1 : Nat))
theorem fin_b : (fin ch L).1 ≤ 4 ∧ (fin ch L).2 ≤ L := by
  have hb := scn_b (ch := ch) L
  unfold fin
  split
  · exact ⟨by show (scn ch L).1 ≤ 4; omega, hb.2.1⟩
  · split
    · exact ⟨by show 1 ≤ 4; omega, Nat.le_refl _⟩
    · split
      · exact ⟨Nat.le_refl _, Nat.le_refl _⟩
      · exact ⟨by show 0 ≤ 4; omega, Nat.zero_le _⟩
theorem fin_bad {t : Nat × Nat × Nat × Nat × Nat} (hkL : k < L) (ht : scn ch (k + 1) = t) (h : t.1 ≠ 0) : fin ch L = (t.1, t.2.1) := by
  have := scn_st (ch := ch) (k := k + 1) (by rw [ht]; exact h) (L - (k + 1))
  rw [show k + 1 + (L - (k + 1)) = L by omega, ht] at this
  unfold fin
  rw [this, if_pos h]
theorem isPicture8 {pl re wi hi : Int32} (hF : 60 < F) (h : TX pt text L ch) : ∃ z, mX8_isPicture F text (jI (L : Nat)) pl re wi hi = some z ∧ PC8 ch L z := by
  have hL := h.2.1
  unfold mX8_isPicture
  simp only [jn_e]
  refine lpr_to (E := fun e => ∃ z, e = some z ∧ PC8 ch L z) (L := mX8_isPicture_L14 text (jI (L : Nat)) (mX8_isPicture_K172 (jI (L : Nat)) pl re) (mX8_isPicture_K159 pl re) (mX8_isPicture_K137 pl re) (mX8_isPicture_K77 pl re) (mX8_isPicture_K54 pl re))
    (fun i y => i ≤ L ∧ (scn ch i).1 = 0 ∧ y = (jI ((scn ch i).2.2.2.2 : Nat), jI (i : Nat), jI ((scn ch i).2.2.1 : Nat), jI ((scn ch i).2.2.2.1 : Nat))) 60 ?_ F 0 _ ⟨by omega, rfl, rfl⟩ (by omega) (by omega)
  intro i y hi ⟨hiL, h0, hy⟩
  subst hy
  have hok := scn_ok i h0
  by_cases e : i = L
  · left
    subst e
    have hfin : fin ch i = if ¬ (0 < (scn ch i).2.2.2.2 ∧ (scn ch i).2.2.2.2 = (scn ch i).2.2.1) then (1, i) else if (scn ch i).2.2.1 = 1 ∨ (scn ch i).2.2.2.1 = 1 then (4, i) else (0, 0) := by
      unfold fin
      rw [if_neg (by rw [h0]; simp)]
    unfold PC8
    rw [hfin]
    generalize scn ch i = t at *
    obtain ⟨r, p, w, n, j⟩ := t
    obtain ⟨a1, a2, a3, a4, a5, a6⟩ := hok
    simp only at a1 a2 a3 a4 a5 h0 ⊢
    refine ⟨mX8_isPicture_K172 (jI (i : Nat)) pl re (jI (j : Nat), jI (w : Nat), jI (n : Nat)), ?_, fun self => ?_⟩
    · simp only [mX8_isPicture_K172, mX8_breaks, jn_e, gz0, bnd_s]
      by_cases q1 : j = 0
      · rw [if_pos (show jI (j : Nat) = 0 by rw [ne0 (by omega)]; exact q1), if_pos (show ¬ (0 < j ∧ j = w) by omega)]
        exact ⟨_, rfl, rfl, fun _ => ⟨rfl, rfl⟩, fun z => absurd z (show ¬ ((1 : Nat) = 0) by decide)⟩
      · rw [if_neg (show ¬ jI (j : Nat) = 0 by rw [ne0 (by omega)]; exact q1)]
        by_cases q2 : w ≤ j
        · rw [nle_t q2 (by omega), if_neg (show ¬ ¬ (0 < j ∧ j = w) by omega)]
          rw [show (1 : Int32) = jI ((1 : Nat) : Int) from jl_1]
          by_cases q3 : w ≤ 1
          · rw [nle_t q3 (by omega), if_pos (show w = 1 ∨ n = 1 by omega), if_pos trivial]
            exact ⟨_, rfl, rfl, fun _ => ⟨rfl, rfl⟩, fun z => absurd z (show ¬ ((4 : Nat) = 0) by decide)⟩
          · rw [nle_f (by omega) (by omega)]
            by_cases q4 : 1 < n
            · rw [nlt_t q4 (by omega), if_neg (show ¬ (w = 1 ∨ n = 1) by omega), ← jl_1, gz1]
              exact ⟨_, rfl, rfl, fun z => absurd rfl z, fun _ => ⟨rfl, rfl⟩⟩
            · rw [nlt_f (by omega) (by omega), if_pos (show w = 1 ∨ n = 1 by omega), if_pos trivial]
              exact ⟨_, rfl, rfl, fun _ => ⟨rfl, rfl⟩, fun z => absurd z (show ¬ ((4 : Nat) = 0) by decide)⟩
        · rw [nle_f (by omega) (by omega), if_pos (show ¬ (0 < j ∧ j = w) by omega)]
          exact ⟨_, rfl, rfl, fun _ => ⟨rfl, rfl⟩, fun z => absurd z (show ¬ ((1 : Nat) = 0) by decide)⟩
    · simp only [mX8_isPicture_L14]
      rw [nle_t (Nat.le_refl _) (by omega)]
  · have hlt : i < L := by omega
    obtain ⟨c1, c2, c3, c4⟩ := h.2.2 i hlt
    have hS : scn ch (i + 1) = if (scn ch i).1 ≠ 0 then scn ch i else
      if 48 ≤ ch i ∧ ch i ≤ 57 then
        (if (scn ch i).2.2.2.1 = 1 ∧ (scn ch i).2.2.2.2 = 6 then (2, i, (scn ch i).2.2)
         else if 1 < (scn ch i).2.2.2.1 ∧ (scn ch i).2.2.2.2 = (scn ch i).2.2.1 then (1, i, (scn ch i).2.2)
         else (0, 0, (if (scn ch i).2.2.2.1 = 1 then (scn ch i).2.2.2.2 + 1 else (scn ch i).2.2.1), (scn ch i).2.2.2.1, (scn ch i).2.2.2.2 + 1))
      else if ch i = 47 ∧ 0 < (scn ch i).2.2.2.2 ∧ (scn ch i).2.2.2.2 = (scn ch i).2.2.1 then
        (if (scn ch i).2.2.2.1 = 6 then (3, i, (scn ch i).2.2) else (0, 0, (scn ch i).2.2.1, (scn ch i).2.2.2.1 + 1, 0))
      else (1, i, (scn ch i).2.2) := rfl
    rw [if_neg (by rw [h0]; simp)] at hS
    have hbad : ∀ r : Nat, r ≠ 0 → scn ch (i + 1) = (r, i, (scn ch i).2.2) → ∀ w n : Int32, PC8 ch L (0, jI (i : Nat), jI (r : Nat), w, n) := by
      intro r hr hs w n
      have := fin_bad (ch := ch) hlt hs hr
      unfold PC8
      rw [this, decide_eq_false hr]
      exact ⟨rfl, fun _ => ⟨rfl, rfl⟩, fun z => absurd z hr⟩
    generalize hT : scn ch i = t at *
    obtain ⟨r, p, w, n, j⟩ := t
    obtain ⟨a1, a2, a3, a4, a5, a6⟩ := hok
    simp only at a1 a2 a3 a4 a5 h0 hS hbad ⊢
    have hin : mX8_in (jI (ch i : Nat)) (48 : Int32) (57 : Int32) = some (bI (decide (48 ≤ ch i ∧ ch i ≤ 57))) := by
      rw [j_48, j_57, in8 (by omega) (by omega) (by omega)]
      congr 2
      exact decide_eq_decide.mpr (by omega)
    have hst : ∀ self, mX8_isPicture_L14 text (jI (L : Nat)) (mX8_isPicture_K172 (jI (L : Nat)) pl re) (mX8_isPicture_K159 pl re) (mX8_isPicture_K137 pl re) (mX8_isPicture_K77 pl re) (mX8_isPicture_K54 pl re) self (jI (j : Nat), jI (i : Nat), jI (w : Nat), jI (n : Nat)) =
        if 48 ≤ ch i ∧ ch i ≤ 57 then
          (if n = 1 ∧ j = 6 then some ((0 : Int32), jI (i : Nat), jI ((2 : Nat) : Int), jI (w : Nat), jI (n : Nat))
           else if 1 < n ∧ j = w then some ((0 : Int32), jI (i : Nat), jI ((1 : Nat) : Int), jI (w : Nat), jI (n : Nat))
           else self (jI ((j + 1 : Nat) : Int), jI ((i + 1 : Nat) : Int), jI ((if n = 1 then j + 1 else w : Nat) : Int), jI (n : Nat)))
        else if ch i = 47 ∧ 0 < j ∧ j = w then
          (if n = 6 then some ((0 : Int32), jI (i : Nat), jI ((3 : Nat) : Int), jI (w : Nat), jI (n : Nat)) else self (jI ((0 : Nat) : Int), jI ((i + 1 : Nat) : Int), jI (w : Nat), jI ((n + 1 : Nat) : Int)))
        else some ((0 : Int32), jI (i : Nat), jI ((1 : Nat) : Int), jI (w : Nat), jI (n : Nat)) := by
      intro self
      simp only [mX8_isPicture_L14, jcl i (by omega), c2]
      rw [nle_f hlt (by omega), gdi (by omega) (by omega), hin, bnd_s]
      simp only [jn_e, ifb, mX8_isPicture_K159, mX8_isPicture_K137, mX8_isPicture_K77, mX8_isPicture_K54, mX8_breaks, gz0, bnd_s, jS, jl_6]
      by_cases hd : 48 ≤ ch i ∧ ch i ≤ 57
      · rw [if_pos (show decide (48 ≤ ch i ∧ ch i ≤ 57) = true from decide_eq_true hd), if_pos hd]
        rw [show (1 : Int32) = jI ((1 : Nat) : Int) from jl_1, show (2 : Int32) = jI ((2 : Nat) : Int) from jl_2]
        by_cases q1 : n = 1
        · rw [neq_t q1]
          by_cases q2 : j = 6
          · rw [neq_t q2, if_pos (show n = 1 ∧ j = 6 from ⟨q1, q2⟩)]
          · rw [neq_f q2 (by omega) (by omega), nle_t (show n ≤ 1 by omega) (by omega), neq_t q1, if_neg (show ¬ (n = 1 ∧ j = 6) from fun z => q2 z.2), if_neg (show ¬ (1 < n ∧ j = w) by omega), if_pos q1]
        · rw [neq_f q1 (by omega) (by omega), nle_f (show 1 < n by omega) (by omega), if_neg (show ¬ (n = 1 ∧ j = 6) from fun z => q1 z.1)]
          by_cases q2 : j = w
          · rw [neq_t q2, if_pos (show 1 < n ∧ j = w from ⟨by omega, q2⟩)]
          · rw [neq_f q2 (by omega) (by omega), neq_f q1 (by omega) (by omega), if_neg (show ¬ (1 < n ∧ j = w) from fun z => q2 z.2), if_neg q1]
      · rw [if_neg (show ¬ (decide (48 ≤ ch i ∧ ch i ≤ 57) = true) by rw [decide_eq_false hd]; exact Bool.noConfusion), if_neg hd]
        rw [show (47 : Int32) = jI ((47 : Nat) : Int) from jl_47]
        by_cases q0 : ch i = 47
        · rw [neq_t q0]
          by_cases q1 : 0 < j
          · rw [if_neg (show ¬ (jI (j : Nat) ≤ 0) by rw [nle0 (by omega)]; omega)]
            by_cases q2 : j = w
            · rw [neq_t q2, if_pos (show ch i = 47 ∧ 0 < j ∧ j = w from ⟨q0, q1, q2⟩)]
              by_cases q3 : n = 6
              · rw [neq_t q3, if_pos q3]; rfl
              · rw [neq_f q3 (by omega) (by omega), if_neg q3, jl_0]
            · rw [neq_f q2 (by omega) (by omega), if_neg (show ¬ (ch i = 47 ∧ 0 < j ∧ j = w) from fun z => q2 z.2.2)]; rfl
          · rw [if_pos (show jI (j : Nat) ≤ 0 by rw [nle0 (by omega)]; omega), if_neg (show ¬ (ch i = 47 ∧ 0 < j ∧ j = w) from fun z => q1 z.2.1)]; rfl
        · rw [neq_f q0 (by omega) (by omega), if_neg (show ¬ (ch i = 47 ∧ 0 < j ∧ j = w) from fun z => q0 z.1)]; rfl
    by_cases hd : 48 ≤ ch i ∧ ch i ≤ 57
    · rw [if_pos hd] at hS
      by_cases q1 : n = 1 ∧ j = 6
      · rw [if_pos q1] at hS
        left
        exact ⟨_, ⟨_, rfl, hbad 2 (by decide) hS _ _⟩, fun self => by rw [hst, if_pos hd, if_pos q1]⟩
      · rw [if_neg q1] at hS
        by_cases q2 : 1 < n ∧ j = w
        · rw [if_pos q2] at hS
          left
          exact ⟨_, ⟨_, rfl, hbad 1 (by decide) hS _ _⟩, fun self => by rw [hst, if_pos hd, if_neg q1, if_pos q2]⟩
        · rw [if_neg q2] at hS
          right
          refine ⟨by omega, _, ⟨by omega, by rw [hS], ?_⟩, fun self => by rw [hst, if_pos hd, if_neg q1, if_neg q2]⟩
          rw [hS]
    · rw [if_neg hd] at hS
      by_cases q1 : ch i = 47 ∧ 0 < j ∧ j = w
      · rw [if_pos q1] at hS
        by_cases q2 : n = 6
        · rw [if_pos q2] at hS
          left
          exact ⟨_, ⟨_, rfl, hbad 3 (by decide) hS _ _⟩, fun self => by rw [hst, if_neg hd, if_pos q1, if_pos q2]⟩
        · rw [if_neg q2] at hS
          right
          refine ⟨by omega, _, ⟨by omega, by rw [hS], ?_⟩, fun self => by rw [hst, if_neg hd, if_pos q1, if_neg q2]⟩
          rw [hS]
      · rw [if_neg q1] at hS
        left
        exact ⟨_, ⟨_, rfl, hbad 1 (by decide) hS _ _⟩, fun self => by rw [hst, if_neg hd, if_neg q1]⟩
/-- what fault answers -/
def faultA (ch : Nat → Nat) (L : Nat) (a : Int) : Int := if 0 ≤ a ∧ a ≤ 1 then (if (fin ch L).1 = 0 then -4 else if a = 0 then ((fin ch L).2 : Int) else ((fin ch L).1 : Int)) else -1
theorem fault3 (hF : 60 < F) (h : TX pt text L ch) (ha : -2147483648 ≤ a ∧ a < 2147483648) : ∃ z, mX7_fault F pt (jI a) = some (jI (faultA ch L a), z) := by
  have hL := h.2.1
  have hb := fin_b (ch := ch) (L := L)
  obtain ⟨z, z1, z2, z3, z4, z5⟩ := look3 hF h
  unfold mX7_fault faultA
  simp only [jn_e]
  by_cases h0 : a < 0
  · rw [j_0, jlt_t ha (by omega) h0, if_neg (by omega)]; exact ⟨_, rfl⟩
  · rw [j_0, jlt_f ha (by omega) (by omega), j_1]
    by_cases h2 : a ≤ 1
    · rw [jle_t ha (by omega) h2, if_pos (by omega), z1, bnd_s, z3, ← j_0]
      by_cases q : (fin ch L).1 = 0
      · rw [if_pos (show jI ((fin ch L).1 : Nat) = 0 by rw [ne0 (by omega)]; exact q), if_pos q]; exact ⟨_, rfl⟩
      · rw [if_neg (show ¬ jI ((fin ch L).1 : Nat) = 0 by rw [ne0 (by omega)]; exact q), if_neg q]
        by_cases q1 : a = 0
        · rw [j_0, jeq_t q1, if_pos q1, z2]; exact ⟨_, rfl⟩
        · rw [j_0, jeq_f ha (by omega) q1, if_neg q1]; exact ⟨_, rfl⟩
    · rw [jle_f ha (by omega) (by omega), if_neg (by omega)]; exact ⟨_, rfl⟩
theorem fault8 {pl re wi hi : Int32} (hF : 60 < F) (h : TX pt text L ch) (ha : -2147483648 ≤ a ∧ a < 2147483648) : ∃ z, mX8_fault F text (jI (L : Nat)) pl re wi hi (jI a) = some (jI (faultA ch L a), z) := by
  have hL := h.2.1
  have hb := fin_b (ch := ch) (L := L)
  obtain ⟨z, z1, z2, z3, z4⟩ := isPicture8 (pl := pl) (re := re) (wi := wi) (hi := hi) hF h
  unfold mX8_fault faultA
  rw [j_0, j_1, in8 ha (by omega) (by omega), bnd_s, ← j_0, ifb]
  by_cases h0 : 0 ≤ a ∧ a ≤ 1
  · rw [if_pos (decide_eq_true h0), if_pos h0, z1, bnd_s, z2, ifb]
    by_cases q : (fin ch L).1 = 0
    · rw [if_pos (decide_eq_true q), if_pos q]; exact ⟨_, rfl⟩
    · rw [if_neg (by rw [decide_eq_false q]; exact Bool.noConfusion), if_neg q]
      simp only [jn_e]
      obtain ⟨y1, y2⟩ := z3 q
      by_cases q1 : a = 0
      · rw [j_0, jeq_t q1, if_pos q1, y1]; exact ⟨_, rfl⟩
      · rw [j_0, jeq_f ha (by omega) q1, if_neg q1, y2]; exact ⟨_, rfl⟩
  · rw [if_neg (by rw [decide_eq_false h0]; exact Bool.noConfusion), if_neg h0]; exact ⟨_, rfl⟩
/-- the maze of a picture -/
def Mrd (ch : Nat → Nat) (L : Nat) : Mz := ((((scn ch L).2.2.1, (scn ch L).2.2.2.1)), fun c => ch (c + c / (scn ch L).2.2.1) - 48, fun _ => false, ((0, 3), ((scn ch L).2.2.1 * (scn ch L).2.2.2.1 - 1, 1)))
theorem fin_ok (h : (fin ch L).1 = 0) : (2 ≤ (scn ch L).2.2.1 ∧ (scn ch L).2.2.1 ≤ 6) ∧ (2 ≤ (scn ch L).2.2.2.1 ∧ (scn ch L).2.2.2.1 ≤ 6) ∧ L + 1 = (scn ch L).2.2.2.1 * ((scn ch L).2.2.1 + 1) ∧ ∀ i, i < L → (i % ((scn ch L).2.2.1 + 1) = (scn ch L).2.2.1 → ch i = 47) ∧ (i % ((scn ch L).2.2.1 + 1) ≠ (scn ch L).2.2.1 → dgt (ch i)) := by
  unfold fin at h
  by_cases h0 : (scn ch L).1 ≠ 0
  · rw [if_pos h0] at h; exact absurd h h0
  · rw [if_neg h0] at h
    by_cases h1 : ¬ (0 < (scn ch L).2.2.2.2 ∧ (scn ch L).2.2.2.2 = (scn ch L).2.2.1)
    · rw [if_pos h1] at h; exact absurd h (show ¬ ((1 : Nat) = 0) by decide)
    · rw [if_neg h1] at h
      by_cases h2 : (scn ch L).2.2.1 = 1 ∨ (scn ch L).2.2.2.1 = 1
      · rw [if_pos h2] at h; exact absurd h (show ¬ ((4 : Nat) = 0) by decide)
      · obtain ⟨a1, a2, a3, a4, a5, a6⟩ := scn_ok L (show (scn ch L).1 = 0 by omega)
        generalize scn ch L = t at *
        obtain ⟨r, p, w, n, j⟩ := t
        simp only at a1 a2 a3 a4 a5 a6 h1 h2 ⊢
        rcases a6 with ⟨b1, b2, b3, b4⟩ | ⟨b1, b2, b3, b4⟩
        · omega
        · refine ⟨⟨by omega, a2⟩, ⟨by omega, a4⟩, ?_, b4⟩
          have hn : n = 2 ∨ n = 3 ∨ n = 4 ∨ n = 5 ∨ n = 6 := by omega
          rcases hn with rfl | rfl | rfl | rfl | rfl <;> omega
theorem Mc_wf {C R : Nat} {t : Nat → Nat} (hC : 2 ≤ C ∧ C ≤ 6) (hR : 2 ≤ R ∧ R ≤ 6) (ht : ∀ c, c < C * R → t c ≤ 9) : WF ((C, R), t, fun _ => false, ((0, 3), (C * R - 1, 1))) := by
  have hd : dm ((C, R), t, (fun _ => false : Op), ((0, 3), (C * R - 1, 1))) := ⟨hC.1, hC.2, hR.1, hR.2⟩
  have hN := dm_le hd
  have e0 : 4 ≤ C * R := hN.2.2.2.2.1
  refine ⟨hd, ht, fun k hk => (by cases hk), fun k hk => (by cases hk), ⟨?_, ?_, ?_⟩, ⟨?_, ?_, ?_⟩, ?_⟩
  · show 0 < C * R; omega
  · show 3 < 4; omega
  · show nb C (C * R) 0 3 = none
    unfold nb
    rw [if_neg (by omega), if_neg (by omega), if_neg (by omega), if_neg (by simp)]
  · show C * R - 1 < C * R; omega
  · show 1 < 4; omega
  · show nb C (C * R) (C * R - 1) 1 = none
    unfold nb
    rw [if_neg (by omega), if_pos rfl, if_neg]
    have e : (C * R - 1) % C = C - 1 := by
      have hR2 : R = 2 ∨ R = 3 ∨ R = 4 ∨ R = 5 ∨ R = 6 := by omega
      have hC2 : C = 2 ∨ C = 3 ∨ C = 4 ∨ C = 5 ∨ C = 6 := by omega
      rcases hC2 with rfl | rfl | rfl | rfl | rfl <;> rcases hR2 with rfl | rfl | rfl | rfl | rfl <;> rfl
    rw [e]; omega
  · show ¬ (0 = C * R - 1 ∧ 3 = 1)
    omega
/-- where the digit of a cell stands -/
theorem cell_at {w n : Nat} (hw : 2 ≤ w ∧ w ≤ 6) (hn : 2 ≤ n ∧ n ≤ 6) (hL : L + 1 = n * (w + 1)) {c : Nat} (hc : c < w * n) : c + c / w < L ∧ (c + c / w) % (w + 1) ≠ w ∧ (c + c / w) - (c + c / w) / (w + 1) = c := by
  have hw2 : w = 2 ∨ w = 3 ∨ w = 4 ∨ w = 5 ∨ w = 6 := by omega
  have hn2 : n = 2 ∨ n = 3 ∨ n = 4 ∨ n = 5 ∨ n = 6 := by omega
  rcases hw2 with rfl | rfl | rfl | rfl | rfl <;> rcases hn2 with rfl | rfl | rfl | rfl | rfl <;> omega
theorem Mrd_wf (h : (fin ch L).1 = 0) : WF (Mrd ch L) := by
  obtain ⟨hw, hn, hL, hc⟩ := fin_ok h
  refine Mc_wf hw hn (fun c hcN => ?_)
  obtain ⟨q1, q2, -⟩ := cell_at hw hn hL hcN
  have := (hc _ q1).2 q2
  unfold dgt at this
  omega
theorem paint3 {ptz : PT} (hF : 60 < F) (h : TX pt text L ch) (hok : (fin ch L).1 = 0) (hp1 : ptz.1 = pt.1) (hp2 : ptz.2.2.2.1 = pt.2.2.2.1) (hp3 : ptz.2.2.2.2.1 = jI ((scn ch L).2.2.1 : Nat)) (hp4 : ptz.2.2.2.2.2.1 = jI ((scn ch L).2.2.2.1 : Nat)) : ∃ r, mX4_paint F ptz v = some r ∧ R3 r (Mrd ch L) := by
  obtain ⟨hw, hn, hLL, hc⟩ := fin_ok hok
  obtain ⟨r, r1, r2, r3⟩ := clear3 (v := v) (F := F) (by omega) hw hn
  have hL := h.2.1
  unfold mX4_paint
  rw [hp3, hp4, r1, bnd_s]
  have hch : ∀ i, i < L → ptz.2.2.2.1 i = jI (ch i : Nat) := fun i hi => by rw [hp2]; exact (h.2.2 i hi).1
  have hb : ∀ i, i < L → ch i ≤ 126 := fun i hi => (h.2.2 i hi).2.2.2
  have hN36 : (scn ch L).2.2.1 * (scn ch L).2.2.2.1 ≤ 36 := Nat.mul_le_mul hw.2 hn.2
  generalize hwe : (scn ch L).2.2.1 = w at *
  generalize hne : (scn ch L).2.2.2.1 = n at *
  have hw2 : w = 2 ∨ w = 3 ∨ w = 4 ∨ w = 5 ∨ w = 6 := by omega
  have key := lpr_r (Q := fun z : MZ => ∃ t, z = (r.1, r.2.1, t, r.2.2.2.1, r.2.2.2.2.1, r.2.2.2.2.2) ∧ ∀ c, c < w * n → t c = jI ((ch (c + c / w) - 48 : Nat) : Int)) (L := mX4_paint_L16 ptz r) (F := F)
    (fun i y => y.1 = jI ((i - i / (w + 1) : Nat) : Int) ∧ y.2.1 = jI (i : Nat) ∧ ∀ c, c < w * n → c + c / w < i → y.2.2 c = jI ((ch (c + c / w) - 48 : Nat) : Int)) L (x := ((0 : Int32), (0 : Int32), r.2.2.1)) (by
    rintro i ⟨y1, y2, y3⟩ hi ⟨e1, e2, e3⟩
    have e1 : y1 = jI ((i - i / (w + 1) : Nat) : Int) := e1
    have e2 : y2 = jI (i : Nat) := e2
    subst e1; subst e2
    by_cases e : i = L
    · left
      subst e
      refine ⟨_, ⟨y3, rfl, fun c hcN => e3 c hcN (cell_at hw hn hLL hcN).1⟩, fun self => ?_⟩
      simp only [mX4_paint_L16, hp1, h.1]
      rw [nle_t (Nat.le_refl _) (by omega)]
    · right
      have hlt : i < L := by omega
      refine ⟨hlt, ?_⟩
      have hbi := hb i hlt
      by_cases q : i % (w + 1) = w
      · have h47 := (hc i hlt).1 q
        refine ⟨(jI ((i + 1 - (i + 1) / (w + 1) : Nat) : Int), jI ((i + 1 : Nat) : Int), y3), ⟨rfl, rfl, fun c hcN hci => e3 c hcN ?_⟩, fun self => ?_⟩
        · have := (cell_at hw hn hLL hcN).2.1
          have : c + c / w ≠ i := by
            intro z
            rw [z] at this; exact this q
          omega
        · simp only [mX4_paint_L16, hp1, h.1]
          rw [nle_f hlt (by omega), at_i (by omega) (by omega), bnd_s, hch i hlt]
          simp only [jn_e, jl_47, jS]
          rw [neq_t h47]
          have : i - i / (w + 1) = i + 1 - (i + 1) / (w + 1) := by
            rcases hw2 with rfl | rfl | rfl | rfl | rfl <;> omega
          rw [this]
      · have hdg := (hc i hlt).2 q
        unfold dgt at hdg
        have hcell : i - i / (w + 1) < w * n := by
          have hn2 : n = 2 ∨ n = 3 ∨ n = 4 ∨ n = 5 ∨ n = 6 := by omega
          rcases hw2 with rfl | rfl | rfl | rfl | rfl <;> rcases hn2 with rfl | rfl | rfl | rfl | rfl <;> omega
        have hback : (i - i / (w + 1)) + (i - i / (w + 1)) / w = i := by
          rcases hw2 with rfl | rfl | rfl | rfl | rfl <;> omega
        refine ⟨(jI ((i + 1 - (i + 1) / (w + 1) : Nat) : Int), jI ((i + 1 : Nat) : Int), upd y3 (i - i / (w + 1)) (jI ((ch i - 48 : Nat) : Int))), ⟨rfl, rfl, fun c hcN hci => ?_⟩, fun self => ?_⟩
        · show upd y3 (i - i / (w + 1)) _ c = _
          by_cases z : c = i - i / (w + 1)
          · subst z; rw [upd_s, hback]
          · rw [upd_n z]
            refine e3 c hcN ?_
            have : c + c / w ≠ i := by
              intro y
              apply z
              have := (cell_at hw hn hLL hcN).2.2
              rw [y] at this
              exact this.symm
            omega
        · simp only [mX4_paint_L16, hp1, h.1]
          rw [nle_f hlt (by omega), at_i (by omega) (by omega), bnd_s, hch i hlt]
          simp only [jn_e, jl_47, jl_48, jS, jnS hdg.1]
          rw [neq_f (by omega) (by omega) (by omega), put_i (by omega) (by omega), bnd_s]
          have : i - i / (w + 1) + 1 = i + 1 - (i + 1) / (w + 1) := by
            rcases hw2 with rfl | rfl | rfl | rfl | rfl <;> omega
          rw [this]) ⟨(show (0 : Int32) = jI ((0 - 0 / (w + 1) : Nat) : Int) by rw [Nat.zero_sub]; exact jl_0), jl_0, fun c _ hc => absurd hc (Nat.not_lt_zero _)⟩ (by omega)
  obtain ⟨z, ⟨t, hz, ht⟩, hz2⟩ := key
  refine ⟨z, hz2, ?_⟩
  rw [hz]
  obtain ⟨g1, g2, g3, g4, g5, g6, g7, g8⟩ := r2
  have eM : Mrd ch L = ((w, n), (fun c => ch (c + c / w) - 48), (fun _ => false), ((0, 3), (w * n - 1, 1))) := by unfold Mrd; rw [hwe, hne]
  rw [eM]
  exact R3_mk g1 g2 (fun c hc => ht c hc) g4 g5 g6 g7 g8
/-- the reference's tones -/
theorem readTones8 {s0 : nF} {wi : Int32} {j5 : nF → Option (Int32 × nF × nF × nF × Int32 × Int32 × Int32 × Int32 × Int32)} {r2 : Int32 × Int32 × Int32 × Int32 × Int32} (hF : 60 < F) (h : TX pt text L ch) (hok : (fin ch L).1 = 0) (hr : r2.2.2.2.1 = jI ((scn ch L).2.2.1 : Nat)) (h0 : R8 s0 (Mc (scn ch L).2.2.1 (scn ch L).2.2.2.1)) :
    ∃ s', lpr (mX8_read_L28 text r2 j5) F ((0 : Int32), s0) = j5 s' ∧ R8 s' (Mrd ch L) := by
  obtain ⟨hw, hn, hLL, hc⟩ := fin_ok hok
  have hL := h.2.1
  have hch : ∀ i, i < L → text i = jI (ch i : Nat) := fun i hi => (h.2.2 i hi).2.1
  have hb : ∀ i, i < L → ch i ≤ 126 := fun i hi => (h.2.2 i hi).2.2.2
  have hN36 : (scn ch L).2.2.1 * (scn ch L).2.2.2.1 ≤ 36 := Nat.mul_le_mul hw.2 hn.2
  generalize hwe : (scn ch L).2.2.1 = w at *
  generalize hne : (scn ch L).2.2.2.1 = n at *
  have eM : Mrd ch L = ((w, n), (fun c => ch (c + c / w) - 48), (fun _ => false), ((0, 3), (w * n - 1, 1))) := by unfold Mrd; rw [hwe, hne]
  have key := lpr_j (Q := fun s' : nF => R8 s' (Mrd ch L)) (L := fun j5 => mX8_read_L28 text r2 j5) (F := F)
    (fun i y => y.1 = jI (i : Nat) ∧ (∀ k, k < 6 → y.2 k = s0 k) ∧ (∀ k, 42 ≤ k → k < 114 → y.2 k = s0 k) ∧ ∀ c, c < i → y.2 (6 + c) = jI ((ch (c + c / w) - 48 : Nat) : Int)) (w * n) (x := ((0 : Int32), s0)) (by
    rintro i ⟨y1, y2⟩ hi ⟨e1, e2, e3, e4⟩
    have e1 : y1 = jI (i : Nat) := e1
    subst e1
    have e2 : ∀ k, k < 6 → y2 k = s0 k := e2
    have e3 : ∀ k, 42 ≤ k → k < 114 → y2 k = s0 k := e3
    have e4 : ∀ c, c < i → y2 (6 + c) = jI ((ch (c + c / w) - 48 : Nat) : Int) := e4
    have hce : mX8_cells y2 = some (jI ((w * n : Nat) : Int)) := by
      unfold mX8_cells
      rw [gl0, gl1, cl0, cl1, e2 0 (by omega), e2 1 (by omega), h0.1, h0.2.1, jnM]
      rfl
    by_cases e : i = w * n
    · left
      subst e
      refine ⟨y2, ?_, fun j self => ?_⟩
      · rw [eM]
        obtain ⟨g1, g2, g3, g4, g5, g6, g7, g8⟩ := h0
        refine ⟨(e2 0 (by omega)).trans g1, (e2 1 (by omega)).trans g2, (e2 2 (by omega)).trans g3, (e2 3 (by omega)).trans g4, (e2 4 (by omega)).trans g5, (e2 5 (by omega)).trans g6, fun c hcN => e4 c hcN, fun k hk => (e3 (42 + k) (by omega) ?_).trans (g8 k hk)⟩
        have hk : k < 2 * (w * n) := hk
        omega
      · simp only [mX8_read_L28, hce, bnd_s]
        rw [nle_t (Nat.le_refl _) (by omega)]
    · right
      have hlt : i < w * n := by omega
      obtain ⟨q1, q2, -⟩ := cell_at hw hn hLL hlt
      have hdg := (hc _ q1).2 q2
      unfold dgt at hdg
      refine ⟨hlt, (jI ((i + 1 : Nat) : Int), upd y2 (6 + i) (jI ((ch (i + i / w) - 48 : Nat) : Int))), ⟨rfl, fun k hk => ?_, fun k hk1 hk2 => ?_, fun c hci => ?_⟩, fun j self => ?_⟩
      · show upd y2 (6 + i) _ k = _
        rw [upd_n (by omega)]; exact e2 k hk
      · show upd y2 (6 + i) _ k = _
        rw [upd_n (by omega)]; exact e3 k hk1 hk2
      · show upd y2 (6 + i) _ (6 + c) = _
        by_cases z : c = i
        · subst z; rw [upd_s]
        · rw [upd_n (by omega)]; exact e4 c (by omega)
      · simp only [mX8_read_L28, hce, bnd_s, hr]
        rw [nle_f hlt (by omega), gnz (by omega) (by omega), ndiv (by omega) (by omega) (by omega), jnA, gdi (by omega) (by omega), j6p, gdi (by omega) (by omega), jcl _ (by omega), jcl _ (by omega), hch _ q1, jl_48, jnS hdg.1, jS]) ⟨jl_0, fun k _ => rfl, fun k _ _ => rfl, fun c hc => by omega⟩ (by omega)
  obtain ⟨s', q1, q2⟩ := key
  exact ⟨s', q2 j5, q1⟩
end RD
