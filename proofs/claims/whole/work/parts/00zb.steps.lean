/-! STEPS: each call on both sides, behind one invariant -/
def CR (M : Mz) (n : Nat) (H : Nat → Mz) (o1 : MZ) (o3 : HS) (s past : nF) (st : Int32) : Prop := WF M ∧ R3 o1 M ∧ R8 s M ∧ RH o3 n H ∧ RP past n H ∧ st = jI (n : Nat) ∧ ∀ i, i < n → WF (H i)
def INV (hs : Int32) (o1 o2 : MZ) (o3 : HS) (o4 : PT) (s kept : nF) (ik : Int32) (past : nF) (st : Int32) (text : nF) (len : Int32) : Prop :=
  ∃ M n H kb K L ch, CR M n H o1 o3 s past st ∧ hs = bI kb ∧ ik = bI kb ∧ (kb = true → WF K ∧ R3 o2 K ∧ R8 kept K) ∧ len = jI (L : Nat) ∧ TX o4 text L ch
def setD (M : Mz) (e : (Nat × Nat) × (Nat × Nat)) : Mz := (M.1, M.2.1, M.2.2.1, e)
theorem in8l {a : Int} (l u : Int) {L U : Int32} (hL : L = jI l) (hU : U = jI u) (hb : -2147483648 ≤ a ∧ a < 2147483648) (hl : -2147483648 ≤ l ∧ l < 2147483648) (hu : -2147483648 ≤ u ∧ u < 2147483648) : mX8_in (jI a) L U = some (bI (decide (l ≤ a ∧ a ≤ u))) := by
  rw [hL, hU]; exact in8 hb hl hu
theorem dnf {P : Prop} {inst : Decidable P} (h : ¬ P) : ¬ (@decide P inst = true) := fun z => h (of_decide_eq_true z)
section ST
variable {hs ik st len : Int32} {o1 o2 o1' : MZ} {o3 : HS} {o4 : PT} {s s' kept past text bg far qu : nF} {M M' : Mz} {n F : Nat} {H : Nat → Mz} {w5 : WY} {a b c : Int}
theorem mutate (hF : 342 < F) (hI : CR M n H o1 o3 s past st) (hM : WF M') (h3 : R3 o1' M') (h8 : R8 s' M') (ha : 0 ≤ a ∧ a < 2147483648) : ∃ h' p', mX2_push F o3 o1 = some h' ∧ mX8_acted F s' (mix 114 s bg) past st (jI a) = some (jI a, s', p', jI (pushN n : Nat)) ∧ CR M' (pushN n) (pushH n H M) o1' h' s' p' (jI (pushN n : Nat)) := by
  obtain ⟨i1, i2, i3, i4, i5, i6, i7⟩ := hI
  obtain ⟨h', q1, q2⟩ := push3 (F := F) (by omega) i4 i2 i1.1
  obtain ⟨p', r1, r2⟩ := acted8 (s := s') (a := a) hF i4.2.1 i5 (fun i hi => (i7 i hi).1) (R8_mix (b := bg) i3 i1.1) i1.1 ha
  refine ⟨h', p', q1, ?_, hM, h3, h8, q2, r2, rfl, pushH_all i4.2.1 i7 i1⟩
  rw [i6]; exact r1
theorem tone_s (hF : 400 < F) (hI : INV hs o1 o2 o3 o4 s kept ik past st text len) (ha : -2147483648 ≤ a ∧ a < 2147483648) (hb : -2147483648 ≤ b ∧ b < 2147483648) :
    ∃ o o', mX7_tone F o1 o3 (jI a) (jI b) = some o ∧ mX8_tone F s bg past st (jI a) (jI b) = some o' ∧ o.1 = o'.1 ∧ INV hs (o1.1, o1.2.1, o.2.1, o1.2.2.2.1, o1.2.2.2.2.1, o1.2.2.2.2.2) o2 o.2.2 o4 o'.2.1 kept ik o'.2.2.2.1 o'.2.2.2.2 text len := by
  have hI0 := hI
  obtain ⟨M, n, H, kb, K, L, ch, hC, k1, k2, k3, k4, k5⟩ := hI
  have i1 := hC.1
  have i2 := hC.2.1
  have i3 := hC.2.2.1
  have hN := dm_le i1.1
  unfold mX7_tone mX8_tone
  rw [hasCell3 i2 i1.1 ha, bnd_s, begins8 (by omega), bnd_s, isCell8 i3 i1.1 ha, bnd_s]
  simp only [jn_e, ifb]
  by_cases h1 : 0 ≤ a ∧ a < (mN M : Int)
  · rw [if_pos (decide_eq_true h1), if_pos (decide_eq_true h1), in8l 0 9 j_0 j_9 hb (by omega) (by omega), bnd_s, ifb]
    obtain ⟨p, rfl⟩ := Int.eq_ofNat_of_zero_le h1.1
    have hp : p < mN M := by omega
    by_cases h2 : 0 ≤ b ∧ b ≤ 9
    · obtain ⟨t, rfl⟩ := Int.eq_ofNat_of_zero_le h2.1
      have htb := i1.2.1 p hp
      have hM : WF (setT M (set1 (mT M) p t)) := by
        refine ⟨i1.1, fun c hc => ?_, i1.2.2⟩
        show set1 (mT M) p t c ≤ 9
        by_cases z : c = p
        · subst z; rw [set1_s]; omega
        · rw [set1_n z]; exact i1.2.1 c hc
      have h3 : R3 (o1.1, o1.2.1, upd o1.2.2.1 p (jI (t : Nat)), o1.2.2.2.1, o1.2.2.2.2.1, o1.2.2.2.2.2) (setT M (set1 (mT M) p t)) := by
        obtain ⟨g1, g2, g3, g4, g5, g6, g7, g8⟩ := i2
        refine R3_mk g1 g2 (fun c hc => ?_) g4 g5 g6 g7 g8
        show _ = jI (set1 (mT M) p t c : Nat)
        by_cases z : c = p
        · subst z; rw [upd_s, set1_s]
        · rw [upd_n z, set1_n z]; exact g3 c hc
      have h8 : R8 (upd s (6 + p) (jI (t : Nat))) (setT M (set1 (mT M) p t)) := by
        obtain ⟨g1, g2, g3, g4, g5, g6, g7, g8⟩ := i3
        refine ⟨(upd_n (by omega)).trans g1, (upd_n (by omega)).trans g2, (upd_n (by omega)).trans g3, (upd_n (by omega)).trans g4, (upd_n (by omega)).trans g5, (upd_n (by omega)).trans g6, fun c hc => ?_, fun k hk => (upd_n (by omega)).trans (g8 k hk)⟩
        show _ = jI (set1 (mT M) p t c : Nat)
        by_cases z : c = p
        · subst z; rw [upd_s, set1_s]
        · rw [upd_n (by omega), set1_n z]; exact g7 c hc
      obtain ⟨h', p', m1, m2, m3⟩ := mutate (F := F) (bg := bg) (a := (mT M p : Int)) (by omega) hC hM h3 h8 (by omega)
      rw [if_pos (decide_eq_true h2), j_0, jlt_f hb (by omega) (by omega), j_9, jle_t hb (by omega) (by omega), at_i (by omega) (by omega), bnd_s, m1, bnd_s, put_i (by omega) (by omega), bnd_s, j6p, gdi (by omega) (by omega), gdi (by omega) (by omega), jcl _ (by omega), i3.2.2.2.2.2.2.1 p hp, m2, bnd_s]
      exact ⟨_, _, rfl, rfl, i2.2.2.1 p hp, _, _, _, kb, K, L, ch, m3, k1, k2, k3, k4, k5⟩
    · rw [if_neg (dnf h2)]
      have hcl : ∀ A : Option (Int32 × nF × HS), (if jI b < 0 then some ((-1 : Int32), o1.2.2.1, o3) else if jI b ≤ (9 : Int32) then A else some ((-1 : Int32), o1.2.2.1, o3)) = some ((-1 : Int32), o1.2.2.1, o3) := by
        intro A
        rw [j_0, j_9]
        by_cases z : b < 0
        · rw [jlt_t hb (by omega) z]
        · rw [jlt_f hb (by omega) (by omega), jle_f hb (by omega) (by omega)]
      rw [hcl]
      exact ⟨_, _, rfl, rfl, rfl, hI0⟩
  · rw [if_neg (dnf h1), if_neg (dnf h1)]
    exact ⟨_, _, rfl, rfl, rfl, hI0⟩
theorem part_nn (hw : WF M) : 0 ≤ partI M ∧ partI M < 2147483648 := by
  have hN := dm_le hw.1
  have := part_ge hw.w2
  unfold partI at *
  omega
theorem carve_s (hF : 400 < F) (hI : INV hs o1 o2 o3 o4 s kept ik past st text len) (ha : -2147483648 ≤ a ∧ a < 2147483648) (hb : -2147483648 ≤ b ∧ b < 2147483648) :
    ∃ o o', mX7_carve F o1 o3 w5 (jI a) (jI b) = some o ∧ mX8_carve F s bg past st far qu (jI a) (jI b) = some o' ∧ o.1 = o'.1 ∧ INV hs (o1.1, o1.2.1, o1.2.2.1, o.2.1, o1.2.2.2.2.1, o1.2.2.2.2.2) o2 o.2.2.1 o4 o'.2.1 kept ik o'.2.2.2.1 o'.2.2.2.2.1 text len := by
  have hI0 := hI
  obtain ⟨M, n, H, kb, K, L, ch, hC, k1, k2, k3, k4, k5⟩ := hI
  have i1 := hC.1
  have i2 := hC.2.1
  have i3 := hC.2.2.1
  have hN := dm_le i1.1
  unfold mX7_carve mX8_carve
  rw [hasCell3 i2 i1.1 ha, bnd_s, begins8 (by omega), bnd_s, isCell8 i3 i1.1 ha, bnd_s]
  simp only [jn_e, ifb]
  by_cases h1 : 0 ≤ a ∧ a < (mN M : Int)
  · rw [if_pos (decide_eq_true h1), if_pos (decide_eq_true h1), in8l 0 3 j_0 j_3 hb (by omega) (by omega), bnd_s, ifb, isDir3 hb, bnd_s, ifb]
    obtain ⟨p, rfl⟩ := Int.eq_ofNat_of_zero_le h1.1
    have hp : p < mN M := by omega
    by_cases h2 : 0 ≤ b ∧ b ≤ 3
    · obtain ⟨d, rfl⟩ := Int.eq_ofNat_of_zero_le h2.1
      have hd4 : d < 4 := by omega
      rw [if_pos (decide_eq_true h2), if_pos (decide_eq_true (show 0 ≤ (d : Int) ∧ (d : Int) < 4 by omega)), beside3 i2 i1.1 hp hd4, bnd_s, besides8 i3 i1.1 hp hd4, bnd_s]
      cases hn : nb (mC M) (mN M) p d with
      | none =>
        rw [oJ_none, if_pos (show jI (-1) = (-1 : Int32) by decide), if_pos (show jI (-1) < 0 by decide)]
        exact ⟨_, _, rfl, rfl, rfl, hI0⟩
      | some o =>
        have hno := num_lt i1.1 hp hd4 hn
        have hnb := nb_pl i1.1.1 i1.1.2.1 i1.1.2.2.1 i1.1.2.2.2 hp hd4 hn
        rw [oJ_some, if_neg (show ¬ jI (o : Nat) = (-1 : Int32) by rw [nem1 (by omega)]; exact id), if_neg (show ¬ jI (o : Nat) < 0 by rw [nn0 (by omega)]; exact id)]
        obtain ⟨w', q1, q2⟩ := findFrom3 (w := w5) (F := F) (by omega) i2 i1.w2 hp
        obtain ⟨z, z1⟩ := areJoined8 (f0 := far) (q0 := qu) (F := F) (by omega) i3 i1.w2 hp hno.2
        rw [q1, bnd_s, wq_reach i1.w2 hp hno.2 q2, bnd_s, ifb, z1, bnd_s, ifb]
        by_cases hj : 0 ≤ dst (mC M) (mO M) p o
        · rw [if_pos (decide_eq_true hj), if_pos (decide_eq_true hj)]
          exact ⟨_, _, rfl, rfl, rfl, hI0⟩
        · rw [if_neg (by rw [decide_eq_false hj]; exact Bool.noConfusion), if_neg (by rw [decide_eq_false hj]; exact Bool.noConfusion)]
          have hnc : ¬ conn (mC M) (mO M) p o := fun z => hj (dst_c.mpr z)
          have hM : WF (setO M (setE (mO M) (num (mC M) p d) true)) := by
            refine WF_setO i1 (vO_set i1.2.2.1 hnb.1) (forest_ins i1.2.2.2.1 ?_)
            rcases hnb.2.1 with ⟨x, y⟩ | ⟨x, y⟩ <;> rw [x, y]
            · exact hnc
            · exact fun z => hnc (conn_sy z)
          obtain ⟨pp, p1, p2⟩ := setPassage3 (t := true) i2 i1.1 hp hd4 hn
          have h8 := R8_set (t := true) i3 i1.1 hno.1
          have hpn := part_nn hM
          obtain ⟨h', p', m1, m2, m3⟩ := mutate (F := F) (bg := bg) (a := partI (setO M (setE (mO M) (num (mC M) p d) true))) (by omega) hC hM p2 h8 hpn
          have hpa := parts3 (F := F) (by omega) p2 hM.1 hM.2.2.1
          have hpa' : mX3_parts F (o1.1, o1.2.1, o1.2.2.1, pp, o1.2.2.2.2.1, o1.2.2.2.2.2) = _ := hpa
          have hpb := parts8 (F := F) (by omega) h8 hM.1
          have p1' : mX3_setPassage o1 (jI (p : Int)) (jI (d : Int)) (1 : Int32) = some pp := p1
          rw [m1, bnd_s, p1', bnd_s, hpa', bnd_s, numberOf8 i3 i1.1 hp hd4 hn, bnd_s, j42p, gdi (by omega) (by omega), jcl _ (by omega)]
          have hpb' : mX8_parts F (upd s (42 + num (mC M) p d) (1 : Int32)) = _ := hpb
          have m2' : mX8_acted F (upd s (42 + num (mC M) p d) (1 : Int32)) (mix 114 s bg) past st _ = _ := m2
          rw [hpb', bnd_s, m2', bnd_s]
          exact ⟨_, _, rfl, rfl, rfl, _, _, _, kb, K, L, ch, m3, k1, k2, k3, k4, k5⟩
    · rw [if_neg (dnf h2), if_neg (dnf (show ¬ (0 ≤ b ∧ b < 4) by omega))]
      exact ⟨_, _, rfl, rfl, rfl, hI0⟩
  · rw [if_neg (dnf h1), if_neg (dnf h1)]
    exact ⟨_, _, rfl, rfl, rfl, hI0⟩
theorem wall_s (hF : 400 < F) (hI : INV hs o1 o2 o3 o4 s kept ik past st text len) (ha : -2147483648 ≤ a ∧ a < 2147483648) (hb : -2147483648 ≤ b ∧ b < 2147483648) :
    ∃ o o', mX7_wall F o1 o3 (jI a) (jI b) = some o ∧ mX8_wall F s bg past st (jI a) (jI b) = some o' ∧ o.1 = o'.1 ∧ INV hs (o1.1, o1.2.1, o1.2.2.1, o.2.1, o1.2.2.2.2.1, o1.2.2.2.2.2) o2 o.2.2 o4 o'.2.1 kept ik o'.2.2.2.1 o'.2.2.2.2 text len := by
  have hI0 := hI
  obtain ⟨M, n, H, kb, K, L, ch, hC, k1, k2, k3, k4, k5⟩ := hI
  have i1 := hC.1
  have i2 := hC.2.1
  have i3 := hC.2.2.1
  have hN := dm_le i1.1
  unfold mX7_wall mX8_wall
  rw [hasCell3 i2 i1.1 ha, bnd_s, begins8 (by omega), bnd_s, isCell8 i3 i1.1 ha, bnd_s]
  simp only [jn_e, ifb]
  by_cases h1 : 0 ≤ a ∧ a < (mN M : Int)
  · rw [if_pos (decide_eq_true h1), if_pos (decide_eq_true h1), in8l 0 3 j_0 j_3 hb (by omega) (by omega), bnd_s, ifb, isDir3 hb, bnd_s, ifb]
    obtain ⟨p, rfl⟩ := Int.eq_ofNat_of_zero_le h1.1
    have hp : p < mN M := by omega
    by_cases h2 : 0 ≤ b ∧ b ≤ 3
    · obtain ⟨d, rfl⟩ := Int.eq_ofNat_of_zero_le h2.1
      have hd4 : d < 4 := by omega
      rw [if_pos (decide_eq_true h2), if_pos (decide_eq_true (show 0 ≤ (d : Int) ∧ (d : Int) < 4 by omega)), hasP3 i2 i1.1 hp hd4, bnd_s, ifb, isOpen8 i3 i1.1 hp hd4, bnd_s, ifb]
      by_cases ho : opn (mC M) (mN M) (mO M) p d = true
      · obtain ⟨o, hn, hoo⟩ := opn_t.mp ho
        have hno := num_lt i1.1 hp hd4 hn
        have hnb := nb_pl i1.1.1 i1.1.2.1 i1.1.2.2.1 i1.1.2.2.2 hp hd4 hn
        rw [if_pos ho, if_pos ho]
        have hM : WF (setO M (setE (mO M) (num (mC M) p d) false)) := WF_setO i1 (fun k hk => i1.2.2.1 k (del_mo k hk)) (forest_del i1.2.2.2.1)
        obtain ⟨pp, p1, p2⟩ := setPassage3 (t := false) i2 i1.1 hp hd4 hn
        have h8 := R8_set (t := false) i3 i1.1 hno.1
        have hpn := part_nn hM
        obtain ⟨h', p', m1, m2, m3⟩ := mutate (F := F) (bg := bg) (a := partI (setO M (setE (mO M) (num (mC M) p d) false))) (by omega) hC hM p2 h8 hpn
        have hpa := parts3 (F := F) (by omega) p2 hM.1 hM.2.2.1
        have hpa' : mX3_parts F (o1.1, o1.2.1, o1.2.2.1, pp, o1.2.2.2.2.1, o1.2.2.2.2.2) = _ := hpa
        have hpb := parts8 (F := F) (by omega) h8 hM.1
        have p1' : mX3_setPassage o1 (jI (p : Int)) (jI (d : Int)) (0 : Int32) = some pp := p1
        rw [m1, bnd_s, p1', bnd_s, hpa', bnd_s, numberOf8 i3 i1.1 hp hd4 hn, bnd_s, j42p, gdi (by omega) (by omega), jcl _ (by omega)]
        have hpb' : mX8_parts F (upd s (42 + num (mC M) p d) (0 : Int32)) = _ := hpb
        have m2' : mX8_acted F (upd s (42 + num (mC M) p d) (0 : Int32)) (mix 114 s bg) past st _ = _ := m2
        rw [hpb', bnd_s, m2', bnd_s]
        exact ⟨_, _, rfl, rfl, rfl, _, _, _, kb, K, L, ch, m3, k1, k2, k3, k4, k5⟩
      · rw [if_neg ho, if_neg ho]
        exact ⟨_, _, rfl, rfl, rfl, hI0⟩
    · rw [if_neg (dnf h2), if_neg (dnf (show ¬ (0 ≤ b ∧ b < 4) by omega))]
      exact ⟨_, _, rfl, rfl, rfl, hI0⟩
  · rw [if_neg (dnf h1), if_neg (dnf h1)]
    exact ⟨_, _, rfl, rfl, rfl, hI0⟩
theorem build_s {w9 : BD} (hF : 400 < F) (hI : INV hs o1 o2 o3 o4 s kept ik past st text len) :
    ∃ o o', mX7_build F o1 o3 w9 = some o ∧ mX8_build F s bg past st far qu = some o' ∧ o.1 = o'.1 ∧ INV hs (o1.1, o1.2.1, o1.2.2.1, o.2.1, o1.2.2.2.2.1, o1.2.2.2.2.2) o2 o.2.2.1 o4 o'.2.1 kept ik o'.2.2.2.1 o'.2.2.2.2.1 text len := by
  have hI0 := hI
  obtain ⟨M, n, H, kb, K, L, ch, hC, k1, k2, k3, k4, k5⟩ := hI
  have i1 := hC.1
  have i2 := hC.2.1
  have i3 := hC.2.2.1
  have hN := dm_le i1.1
  unfold mX7_build mX8_build
  rw [isWhole3 (by omega) i2 i1.1 i1.2.2.1, bnd_s, ifb, begins8 (by omega), bnd_s, isWhole8 (by omega) i3 i1.1, bnd_s, ifb]
  by_cases h1 : partI M = 1
  · rw [if_pos (decide_eq_true h1), if_pos (decide_eq_true h1)]
    exact ⟨_, _, rfl, rfl, rfl, hI0⟩
  · rw [if_neg (dnf h1), if_neg (dnf h1)]
    have hpg := part_ge i1.w2
    have hpl : partI M ≤ 36 := by unfold partI; omega
    obtain ⟨g, p, b1, b2⟩ := joinAll3 (F := F) (f := w9) (by omega) i2 i1
    simp only [jn_e]
    obtain ⟨z, z1, z2, z3⟩ := build_out8 (F := F) (f0 := far) (q0 := qu) (j4 := mX8_build_K130 F past st (mix 114 s bg)) (by omega) i3 i1
    obtain ⟨hM, -⟩ := bit_wf i1 (partI M - 1).toNat (by omega)
    obtain ⟨h', p', m1, m2, m3⟩ := mutate (F := F) (bg := bg) (a := partI M - 1) (by omega) hC hM b2 z2 (by omega)
    rw [m1, bnd_s, b1, bnd_s, z3]
    simp only [mX8_build_K130, z1]
    rw [m2, bnd_s]
    exact ⟨_, _, rfl, rfl, rfl, _, _, _, kb, K, L, ch, m3, k1, k2, k3, k4, k5⟩
end ST
