/-! MEASURES: the search of the reference -/
section ME
variable {s : nF} {M : Mz} {c d F n i r : Nat} {ord prev len : Nat → Nat}
def FRe (f q : nF) (M : Mz) (n : Nat) (ord len : Nat → Nat) : Prop :=
  (∀ k, k < n → q k = jI (ord k : Nat)) ∧ (∀ k, k < n → f (ord k) = jI (len (ord k) : Nat)) ∧ (∀ c, c < mN M → ¬ Vs n ord c → f c = jI (-1))
theorem measures_in (hF : 4 < F) (h : R8 s M) (hw : WF2 M) {f q : nF} (hS : SS (mC M) (mN M) (mO M) r i n ord prev len) (hi : i < n) (hx : FRe f q M n ord len) :
    ∃ y : Int32 × nF × nF, (∃ n' ord' prev' len', y.1 = jI (n' : Nat) ∧ SS (mC M) (mN M) (mO M) r (i + 1) n' ord' prev' len' ∧ FRe y.2.1 y.2.2 M n' ord' len') ∧ ∀ j6, lpr (mX8_measures_L57 s (jI (n : Nat), jI (i : Nat), f, q) j6) F (jI (n : Nat), (0 : Int32), f, q) = j6 y := by
  obtain ⟨hd, hv, hfo⟩ := hw
  have hN := dm_le hd
  have hc0 : ord i < mN M := hS.2.2.2.2.1 i hi
  have hnN0 := ss_n hS
  refine lpr_j (L := fun j6 => mX8_measures_L57 s (jI (n : Nat), jI (i : Nat), f, q) j6) (fun d y => y.2.1 = jI (d : Nat) ∧ ∃ n' ord' prev' len', y.1 = jI (n' : Nat) ∧ SS (mC M) (mN M) (mO M) r i n' ord' prev' len' ∧ FRe y.2.2.1 y.2.2.2 M n' ord' len' ∧ i < n' ∧ ord' i = ord i ∧ ∀ d', d' < d → ∀ o, nb (mC M) (mN M) (ord i) d' = some o → mO M (num (mC M) (ord i) d') = true → Vs n' ord' o) 4 ?_ ⟨jl_0, n, ord, prev, len, rfl, hS, hx, hi, rfl, fun d' hd' => by omega⟩ hF
  intro d y hd4 ⟨hy1, n', ord', prev', len', hy2, hS', hx', hi', ho', hn'⟩
  have hnN := ss_n hS'
  have hq : q i = jI (ord i : Nat) := hx.1 i hi
  by_cases e : d = 4
  · left
    subst e
    refine ⟨(y.1, y.2.2.1, y.2.2.2), ⟨n', ord', prev', len', hy2, ss_next hS' hi' (fun c hac => ?_), hx'⟩, fun j self => ?_⟩
    · rw [ho'] at hac
      obtain ⟨d', q1, q2, q3⟩ := (adj_dir hd.1 hd.2.1 hd.2.2.1 hd.2.2.2 hv hc0).mp hac
      exact hn' d' q1 c q2 q3
    · simp only [mX8_measures_L57, hy1, jl_4]
      rw [nle_t (Nat.le_refl _) (by omega)]
  · right
    have hdlt : d < 4 := by omega
    refine ⟨hdlt, ?_⟩
    have hstep : ∀ j self, mX8_measures_L57 s (jI (n : Nat), jI (i : Nat), f, q) j self y = (if opn (mC M) (mN M) (mO M) (ord i) d = true then (if oJ (nb (mC M) (mN M) (ord i) d) < 0 then self (jI (n' : Nat), jI ((d + 1 : Nat) : Int), y.2.2.1, y.2.2.2) else gd (inb (oJ (nb (mC M) (mN M) (ord i) d)) 36) (if 0 ≤ y.2.2.1 (oJ (nb (mC M) (mN M) (ord i) d)).toNatClampNeg then self (jI (n' : Nat), jI ((d + 1 : Nat) : Int), y.2.2.1, y.2.2.2) else gd (inb (oJ (nb (mC M) (mN M) (ord i) d)) 36) (gd (inb (jI (n' : Nat)) 36) (self (jI ((n' + 1 : Nat) : Int), jI ((d + 1 : Nat) : Int), upd y.2.2.1 (oJ (nb (mC M) (mN M) (ord i) d)).toNatClampNeg (y.2.2.1 (ord i) + 1), upd y.2.2.2 n' (oJ (nb (mC M) (mN M) (ord i) d))))))) else self (jI (n' : Nat), jI ((d + 1 : Nat) : Int), y.2.2.1, y.2.2.2)) := by
      intro j self
      simp only [mX8_measures_L57, hy1, hy2, jl_4, jcl i (by omega), hq]
      rw [nle_f hdlt (by omega), isOpen8 h hd hc0 hdlt, bnd_s]
      simp only [jn_e, ifb, jS, besides8 h hd hc0 hdlt, bnd_s, gdi (show ord i < 36 by omega) (show 36 < 100000 by omega), jcl (ord i) (by omega), jcl n' (by omega)]
      split
      · rfl
      · rw [if_pos (by decide)]
    cases hop : opn (mC M) (mN M) (mO M) (ord i) d with
    | false =>
      refine ⟨(jI (n' : Nat), jI ((d + 1 : Nat) : Int), y.2.2.1, y.2.2.2), ⟨rfl, n', ord', prev', len', rfl, hS', hx', hi', ho', fun d' hd' o hno hoo => ?_⟩, fun j self => by rw [hstep, hop, if_neg Bool.noConfusion]⟩
      by_cases q : d' = d
      · subst q
        have : opn (mC M) (mN M) (mO M) (ord i) d' = true := opn_t.mpr ⟨o, hno, hoo⟩
        rw [hop] at this; cases this
      · exact hn' d' (by omega) o hno hoo
    | true =>
      obtain ⟨o, hno, hoo⟩ := opn_t.mp hop
      have hp := nb_pl hd.1 hd.2.1 hd.2.2.1 hd.2.2.2 hc0 hdlt hno
      have hoN : o < mN M := hp.2.2.1
      have hadj : adj (mC M) (mO M) (ord' i) o := by rw [ho']; exact (adj_dir hd.1 hd.2.1 hd.2.2.1 hd.2.2.2 hv hc0).mpr ⟨d, hdlt, hno, hoo⟩
      by_cases hvs : Vs n' ord' o
      · obtain ⟨k, hk, hko⟩ := hvs
        have hl := hx'.2.1 k hk
        rw [hko] at hl
        refine ⟨(jI (n' : Nat), jI ((d + 1 : Nat) : Int), y.2.2.1, y.2.2.2), ⟨rfl, n', ord', prev', len', rfl, hS', hx', hi', ho', fun d' hd' o' hno' hoo' => ?_⟩, fun j self => ?_⟩
        · by_cases q : d' = d
          · subst q
            rw [hno] at hno'; cases hno'
            exact ⟨k, hk, hko⟩
          · exact hn' d' (by omega) o' hno' hoo'
        · have hlk := ss_len hS' k hk
          rw [hko] at hlk
          rw [hstep, hop, if_pos rfl, hno, oJ_some, if_neg (by rw [nn0 (by omega)]; exact id), gdi (by omega) (by omega), jcl _ (by omega), hl, if_pos (by rw [n0l (by omega)]; trivial)]
      · have hl := hx'.2.2 o hoN hvs
        have hS2 := ss_add hS' hi' hoN hadj hvs
        have hn2 := ss_n hS2
        have hne : ∀ k, k < n' → ord' k ≠ o := fun k hk e => hvs ⟨k, hk, e⟩
        refine ⟨(jI ((n' + 1 : Nat) : Int), jI ((d + 1 : Nat) : Int), upd y.2.2.1 o (y.2.2.1 (ord i) + 1), upd y.2.2.2 n' (jI (o : Nat))), ⟨rfl, n' + 1, set1 ord' n' o, set1 prev' o (ord' i), set1 len' o (len' (ord' i) + 1), rfl, hS2, ⟨fun k hk => ?_, fun k hk => ?_, fun c hc hn => ?_⟩, by omega, by rw [set1_n (by omega)]; exact ho', fun d' hd' o' hno' hoo' => ?_⟩, fun j self => ?_⟩
        · show upd y.2.2.2 n' (jI (o : Nat)) k = _
          by_cases e : k = n'
          · subst e; rw [upd_s, set1_s]
          · rw [upd_n e, set1_n e]; exact hx'.1 k (by omega)
        · show upd y.2.2.1 o _ _ = _
          by_cases e : k = n'
          · subst e; rw [set1_s, upd_s, set1_s, ← ho', hx'.2.1 i hi', jS]
          · rw [set1_n e, upd_n (hne k (by omega)), set1_n (hne k (by omega))]; exact hx'.2.1 k (by omega)
        · show upd y.2.2.1 o _ c = _
          have e : c ≠ o := by
            rintro rfl
            exact hn ⟨n', by omega, set1_s⟩
          rw [upd_n e]
          exact hx'.2.2 c hc (fun q => hn (Vs_add q))
        · by_cases q : d' = d
          · subst q
            rw [hno] at hno'; cases hno'
            exact ⟨n', by omega, set1_s⟩
          · exact Vs_add (hn' d' (by omega) o' hno' hoo')
        · rw [hstep, hop, if_pos rfl, hno, oJ_some, if_neg (by rw [nn0 (by omega)]; exact id), gdi (by omega) (by omega), jcl _ (by omega), hl, if_neg (by decide), gdi (by omega) (by omega), gdi (by omega) (by omega)]
theorem measures8 {f0 q0 : nF} (hF : 36 < F) (h : R8 s M) (hw : WF2 M) (hr : r < mN M) : ∃ fq : nF × nF, mX8_measures F s f0 q0 (jI (r : Nat)) = some fq ∧ ∀ c, c < mN M → fq.1 c = jI (dst (mC M) (mO M) r c) := by
  have hd := hw.1
  have hN := dm_le hd
  unfold mX8_measures
  simp only [jn_e]
  have h1 := lpr_fn (L := mX8_measures_L2 s (mX8_measures_K23 F s q0 (jI (r : Nat)))) (e := mX8_measures_K23 F s q0 (jI (r : Nat)) (mix (mN M) (fun _ => (-1 : Int32)) f0)) (F := F) (fun i => (jI (i : Nat), mix i (fun _ => (-1 : Int32)) f0)) (mN M) (by
    intro i hi self
    simp only [mX8_measures_L2, cells8 h, bnd_s]
    rw [nle_f hi (by omega), gdi (by omega) (by omega), jcl _ (by omega), jS, mix_S (f := fun _ => (-1 : Int32))]) (by
    intro self
    simp only [mX8_measures_L2, cells8 h, bnd_s]
    rw [nle_t (Nat.le_refl _) (by omega)]) (by omega)
  simp only [mix_0] at h1
  rw [jl_0, h1]
  simp only [mX8_measures_K23]
  rw [gdi (by omega) (by omega), gl036, jcl _ (by omega), cl0]
  have key := lpr_r (Q := fun fq : nF × nF => ∀ c, c < mN M → fq.1 c = jI (dst (mC M) (mO M) r c)) (L := mX8_measures_L41 F s) (fun i x => x.2.1 = jI (i : Nat) ∧ ∃ n ord prev len, x.1 = jI (n : Nat) ∧ SS (mC M) (mN M) (mO M) r i n ord prev len ∧ FRe x.2.2.1 x.2.2.2 M n ord len) 36 (F := F) (x := ((1 : Int32), (0 : Int32), upd (mix (mN M) (fun _ => (-1 : Int32)) f0) r (0 : Int32), upd q0 0 (jI (r : Nat)))) (by
    intro i x hi ⟨hx1, n, ord, prev, len, hx2, hS, hx⟩
    have hnN := ss_n hS
    have hin := hS.2.1
    by_cases e : i = n
    · left
      subst e
      have hrt := ss_rt hS
      refine ⟨(x.2.2.1, x.2.2.2), fun c hc => ?_, fun self => ?_⟩
      · by_cases q : Vs i ord c
        · obtain ⟨k, hk, rfl⟩ := q
          rw [hx.2.1 k hk, dst_rt hd.1 hw.2.2 hrt ⟨k, hk, rfl⟩]
        · rw [hx.2.2 c hc q, dst_no (fun z => q ((rt_conn hrt).mpr z))]
      · simp only [mX8_measures_L41, hx1, hx2]
        rw [nle_t (Nat.le_refl _) (by omega)]
    · right
      have hin2 : i < n := by omega
      obtain ⟨y, hy, hyL⟩ := measures_in (F := F) (by omega) h hw hS hin2 hx
      obtain ⟨n', ord', prev', len', hy2, hS', hx'⟩ := hy
      refine ⟨by omega, (y.1, jI ((i + 1 : Nat) : Int), y.2.1, y.2.2), ⟨rfl, n', ord', prev', len', hy2, hS', hx'⟩, fun self => ?_⟩
      obtain ⟨x1, x2, x3, x4⟩ := x
      simp only at hx1 hx2
      subst hx1; subst hx2
      simp only [mX8_measures_L41]
      rw [nle_f hin2 (by omega), gdi (by omega) (by omega)]
      simp only [jn_e]
      rw [hyL]
      simp only [mX8_measures_K136, jS]) ⟨jl_0, 1, fun _ => r, fun _ => 0, fun _ => 0, jl_1, ⟨by omega, by omega, rfl, rfl, fun _ _ => hr, fun j k hj hk _ => by omega, fun k hk hk1 => by omega, fun k c hk => by omega⟩, ⟨fun k hk => by
        obtain rfl : k = 0 := by omega
        show upd q0 0 (jI (r : Nat)) 0 = _
        exact upd_s, fun k hk => by
        show upd _ r (0 : Int32) r = _
        rw [upd_s]; rfl, fun c hc hn => by
        show upd _ r (0 : Int32) c = _
        have : c ≠ r := by
          rintro rfl
          exact hn ⟨0, by omega, rfl⟩
        rw [upd_n this, mix_lt hc, j_m1]⟩⟩ hF
  obtain ⟨fq, q1, q2⟩ := key
  exact ⟨fq, q2, q1⟩
end ME
