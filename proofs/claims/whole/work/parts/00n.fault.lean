/-! FAULTS: the way of the reference, the fault of the way -/
theorem bnat {b : Bool} : bI b = jI (b01 b : Nat) := by cases b <;> decide +kernel
theorem gl036_j {β : Type} {K : Option β} : gd (inb (jI 0) 36) K = K := gdi (a := 0) (by omega) (by omega)
theorem tcn_ite {β : Type} {x d a : Int32} {f : Int32 → Option β} : f (a + (if x < 0 then (0 : Int32) else if d = x then 0 else 1)) = (if x < 0 then f (a + 0) else if d = x then f (a + 0) else f (a + 1)) := by
  by_cases h : x < 0
  · rw [if_pos h, if_pos h]
  · rw [if_neg h, if_neg h]
    by_cases h2 : d = x
    · rw [if_pos h2, if_pos h2]
    · rw [if_neg h2, if_neg h2]
section FT
variable {s : nF} {M : Mz} {c d F n i r x : Nat}
theorem findsWay8 {f0 q0 o0 st0 : nF} {wc tu : Int32} (hF : 36 < F) (h : R8 s M) (hw : WF2 M) (hx : x < mN M) (hE : mE M < mN M) : ∃ z, mX8_findsWay F s f0 q0 o0 st0 wc tu (jI (x : Nat)) = some z ∧ FWs M x z := by
  have hd := hw.1
  have hN := dm_le hd
  unfold mX8_findsWay
  simp only [jn_e]
  have h1 := lpr_fn (L := mX8_findsWay_L2 s (mX8_findsWay_K23 F s f0 q0 st0 (jI (x : Nat)))) (e := mX8_findsWay_K23 F s f0 q0 st0 (jI (x : Nat)) (mix (mN M) (fun _ => jI ((b01 false : Nat) : Int)) o0)) (F := F) (fun i => (jI (i : Nat), mix i (fun _ => jI ((b01 false : Nat) : Int)) o0)) (mN M) (by
    intro i hi self
    simp only [mX8_findsWay_L2, cells8 h, bnd_s]
    rw [nle_f hi (by omega), gdi (by omega) (by omega), jcl _ (by omega), jS, nar0, mix_S (f := fun _ => jI ((b01 false : Nat) : Int))]) (by
    intro self
    simp only [mX8_findsWay_L2, cells8 h, bnd_s]
    rw [nle_t (Nat.le_refl _) (by omega)]) (by omega)
  simp only [mix_0] at h1
  rw [jl_0, h1]
  obtain ⟨⟨fa, qu⟩, hm, hfar⟩ := measures8 (f0 := f0) (q0 := q0) hF h hw hx
  simp only [mX8_findsWay_K23, hm, bnd_s, gl2, cl2, h.2.2.1]
  have hfar : ∀ c, c < mN M → fa c = jI (dst (mC M) (mO M) x c) := hfar
  rw [gdi (by omega) (by omega), jcl _ (by omega), hfar _ hE]
  have b1 := dst_b hw hx hE
  have b2 := dst_lt hw hx hE
  by_cases hcn : conn (mC M) (mO M) x (mE M)
  · have hdp := dst_c.mpr hcn
    rw [j_0, jle_t (by omega) b1 hdp, gdi (by omega) (by omega), gl036_j]
    obtain ⟨V, len, prev, hrt⟩ := rt_ex hw hx
    have hV := (rt_conn hrt).mpr hcn
    have hwy := wy_rt hd.1 hw.2.2 hrt hV
    have hdE := dst_rt hd.1 hw.2.2 hrt hV
    have hlen : len (mE M) < mN M := by omega
    have hVN : ∀ c, V c → c < mN M := fun c hc => conn_N hw ((rt_conn hrt).mp hc) hx
    have key := lpr_r (Q := fun z => FWs M x z) (L := mX8_findsWay_L77 F s (fa, qu)) (fun k y => y.1 = jI (itr prev k (mE M) : Nat) ∧ (k = 0 ∧ y.2.1 = jI (-1) ∨ ∃ dk, 0 < k ∧ dk < 4 ∧ y.2.1 = jI (dk : Nat) ∧ nb (mC M) (mN M) (itr prev (k - 1) (mE M)) dk = some (itr prev k (mE M))) ∧ (∀ c, c < mN M → ∃ b : Bool, y.2.2.1 c = jI (b01 b : Nat) ∧ (b = true ↔ ∃ j, j ≤ k ∧ itr prev j (mE M) = c)) ∧ (∀ j, j ≤ k → y.2.2.2.1 j = jI (itr prev j (mE M) : Nat)) ∧ y.2.2.2.2.1 = jI ((k + 1 : Nat) : Int) ∧ y.2.2.2.2.2 = jI (tcn (fun k => (itr prev (k + 1) (mE M) : Int) - (itr prev k (mE M) : Int)) k : Nat)) (len (mE M)) (F := F) (x := (jI (mE M : Nat), (-1 : Int32), upd (mix (mN M) (fun _ => jI ((b01 false : Nat) : Int)) o0) (mE M) (vp_nar .boolean (1 : Int32)), upd st0 (jI 0).toNatClampNeg (jI (mE M : Nat)), (1 : Int32), jI 0)) (by
      intro k y hk ⟨y1, y2, y3, y4, y5, y6⟩
      obtain ⟨hVk, hlk⟩ := itr_rt hrt hV k hk
      have hkN := hVN _ hVk
      have hdk := dst_rt hd.1 hw.2.2 hrt hVk
      by_cases e : k = len (mE M)
      · left
        subst e
        refine ⟨((1 : Int32), fa, qu, y.2.2.1, y.2.2.2.1, y.2.2.2.2.1, y.2.2.2.2.2), ⟨?_, fun c hc => ?_, fun j hj => ?_, ?_, ?_⟩, fun self => ?_⟩
        · rw [bI_p hdp]
        · obtain ⟨b, hb1, hb2⟩ := y3 c hc
          show y.2.2.1 c = _
          rw [hb1, hwy]
          congr 3
          rw [Bool.eq_iff_iff, hb2, decide_eq_true_iff, mem_pth]
        · rw [hwy, pth_len] at hj
          show y.2.2.2.1 j = _
          rw [y4 j (by omega), hwy, nth_pth _ _ _ (by omega)]
        · show y.2.2.2.2.1 = _
          rw [y5, hwy, pth_len]
        · show y.2.2.2.2.2 = _
          rw [y6, hwy]
          unfold turnsOf
          rw [pth_len]
          congr 2
          refine tcn_congr (fun k hk => ?_)
          rw [nth_pth _ _ _ (by omega), nth_pth _ _ _ (by omega)]
        · simp only [mX8_findsWay_L77, y1]
          rw [gdi (by omega) (by omega), jcl _ (by omega), hfar _ hkN, hdk, show len (itr prev (len (mE M)) (mE M)) = 0 by omega, jl_0, nle_t (Nat.le_refl _) (by omega), gz1]
      · right
        have hklt : k < len (mE M) := by omega
        have hadj := itr_adj hrt hV hklt
        obtain ⟨hVk1, hlk1⟩ := itr_rt hrt hV (k + 1) hklt
        have hk1N := hVN _ hVk1
        have hdk1 := dst_rt hd.1 hw.2.2 hrt hVk1
        obtain ⟨dn, q1, q2, q3⟩ := (adj_dir hd.1 hd.2.1 hd.2.2.1 hd.2.2.2 hw.2.1 hkN).mp hadj
        have hL92 := fw_dir (F := F) (r3 := (fa, qu)) (x4 := y) (by omega) h hw y1 hkN hfar hx q2 q1 q3 (by rw [hdk1, hdk]; omega) (fun y' hy' hdy => by
          have hVy := hrt.2.2.2 _ _ hVk hy'
          have := (rt_nearer hd.1 hw.2.2 hrt hVk hy' (by
            rw [dst_rt hd.1 hw.2.2 hrt hVy, hdk] at hdy
            omega)).2
          rw [itr_S]; exact this.symm)
        have hinc : (if y.2.1 < 0 then (0 : Int32) else if jI (dn : Nat) = y.2.1 then 0 else 1) = jI ((if 0 < k ∧ ((itr prev (k + 1) (mE M) : Int) - (itr prev k (mE M) : Int)) ≠ ((itr prev (k - 1 + 1) (mE M) : Int) - (itr prev (k - 1) (mE M) : Int)) then 1 else 0 : Nat) : Int) := by
          rcases y2 with ⟨e0, e1⟩ | ⟨dk, e0, e1, e2, e3⟩
          · rw [e1, if_pos (by decide), if_neg (by omega)]; rfl
          · rw [e2, if_neg (by rw [nn0 (by omega)]; exact id), show k - 1 + 1 = k by omega, nb_dif q2, nb_dif e3]
            by_cases q : dn = dk
            · subst q; rw [if_pos rfl, if_neg (by simp)]; rfl
            · rw [neq_f q (by omega) (by omega), if_pos ⟨e0, fun z => q (dif_inj hd.1 q1 e1 z)⟩]; rfl
        refine ⟨hklt, (jI (itr prev (k + 1) (mE M) : Nat), jI (dn : Nat), upd y.2.2.1 (itr prev (k + 1) (mE M)) (vp_nar .boolean (1 : Int32)), upd y.2.2.2.1 (k + 1) (jI (itr prev (k + 1) (mE M) : Nat)), jI ((k + 1 + 1 : Nat) : Int), jI (tcn (fun k => (itr prev (k + 1) (mE M) : Int) - (itr prev k (mE M) : Int)) (k + 1) : Nat)), ⟨rfl, Or.inr ⟨dn, by omega, q1, rfl, q2⟩, fun c hc => ?_, fun j hj => ?_, rfl, rfl⟩, fun self => ?_⟩
        · show ∃ b : Bool, upd y.2.2.1 (itr prev (k + 1) (mE M)) _ c = _ ∧ _
          by_cases q : c = itr prev (k + 1) (mE M)
          · exact ⟨true, by rw [q, upd_s, nar1], fun _ => ⟨k + 1, by omega, q.symm⟩, fun _ => rfl⟩
          · obtain ⟨b, hb1, hb2⟩ := y3 c hc
            refine ⟨b, by rw [upd_n q, hb1], hb2.trans ⟨fun ⟨j, g1, g2⟩ => ⟨j, by omega, g2⟩, fun ⟨j, g1, g2⟩ => ?_⟩⟩
            by_cases z : j = k + 1
            · subst z; exact absurd g2.symm q
            · exact ⟨j, by omega, g2⟩
        · show upd y.2.2.2.1 (k + 1) _ j = _
          by_cases q : j = k + 1
          · subst q; rw [upd_s]
          · rw [upd_n q]; exact y4 j (by omega)
        · simp only [mX8_findsWay_L77, y1]
          rw [gdi (by omega) (by omega), jcl _ (by omega), hfar _ hkN, hdk, if_neg (by rw [nle0 (by omega)]; omega)]
          simp only [jn_e]
          rw [hL92]
          simp only [mX8_findsWay_K146, jn_e, y1, besides8 h hd hkN q1, q2, bnd_s, oJ_some, y5, y6]
          have hfin : ∀ t : Int32, t = jI ((if 0 < k ∧ ((itr prev (k + 1) (mE M) : Int) - (itr prev k (mE M) : Int)) ≠ ((itr prev (k - 1 + 1) (mE M) : Int) - (itr prev (k - 1) (mE M) : Int)) then 1 else 0 : Nat) : Int) →
              gd (inb (oJ (nb (mC M) (mN M) (itr prev k (mE M)) dn)) 36) (gd (inb (jI ((k + 1 : Nat) : Int)) 36) (self (oJ (nb (mC M) (mN M) (itr prev k (mE M)) dn), jI (dn : Nat), upd y.2.2.1 (oJ (nb (mC M) (mN M) (itr prev k (mE M)) dn)).toNatClampNeg (vp_nar .boolean (1 : Int32)), upd y.2.2.2.1 (jI ((k + 1 : Nat) : Int)).toNatClampNeg (oJ (nb (mC M) (mN M) (itr prev k (mE M)) dn)), jI ((k + 1 : Nat) : Int) + 1, jI (tcn (fun k => (itr prev (k + 1) (mE M) : Int) - (itr prev k (mE M) : Int)) k : Nat) + t))) =
              self (jI (itr prev (k + 1) (mE M) : Nat), jI (dn : Nat), upd y.2.2.1 (itr prev (k + 1) (mE M)) (vp_nar .boolean (1 : Int32)), upd y.2.2.2.1 (k + 1) (jI (itr prev (k + 1) (mE M) : Nat)), jI ((k + 1 + 1 : Nat) : Int), jI (tcn (fun k => (itr prev (k + 1) (mE M) : Int) - (itr prev k (mE M) : Int)) (k + 1) : Nat)) := by
            intro t ht
            rw [ht, show nb (mC M) (mN M) (itr prev k (mE M)) dn = some (itr prev (k + 1) (mE M)) from q2, oJ_some, gdi (by omega) (by omega), gdi (by omega) (by omega), jcl _ (by omega), jcl _ (by omega), jS, jnA]
            rfl
          by_cases z1 : y.2.1 < 0
          · rw [if_pos z1] at hinc ⊢
            exact hfin _ hinc
          · rw [if_neg z1] at hinc ⊢
            by_cases z2 : jI (dn : Nat) = y.2.1
            · rw [if_pos z2] at hinc ⊢
              exact hfin _ hinc
            · rw [if_neg z2] at hinc ⊢
              exact hfin _ hinc) ⟨rfl, Or.inl ⟨rfl, j_m1⟩, fun c hc => by
        show ∃ b : Bool, upd _ (mE M) _ c = _ ∧ _
        by_cases q : c = mE M
        · exact ⟨true, by rw [q, upd_s, nar1], fun _ => ⟨0, by omega, q.symm⟩, fun _ => rfl⟩
        · refine ⟨false, by rw [upd_n q, mix_lt hc], fun z => (by cases z), fun ⟨j, g1, g2⟩ => ?_⟩
          obtain rfl : j = 0 := by omega
          exact absurd g2.symm q, fun j hj => by
        obtain rfl : j = 0 := by omega
        show upd st0 (jI 0).toNatClampNeg _ 0 = _
        rw [show (jI 0).toNatClampNeg = 0 from jcl 0 (by omega), upd_s]; rfl, jl_1, rfl⟩ (by omega)
    obtain ⟨z, z1, z2⟩ := key
    refine ⟨z, ?_, z1⟩
    rw [← z2]
  · have hdn := dst_no hcn
    rw [j_0, jle_f (by omega) b1 (by omega)]
    refine ⟨_, rfl, ?_, fun c hc => ?_, fun k hk => ?_, ?_, ?_⟩
    · rw [bI_n (by omega)]; rfl
    · rw [wy_no hcn]
      show mix (mN M) (fun _ => jI ((b01 false : Nat) : Int)) o0 c = jI (b01 (decide (c ∈ ([] : List Nat))) : Nat)
      rw [mix_lt hc]
      rw [decide_eq_false (by simp)]
    · rw [wy_no hcn] at hk
      simp at hk
    · rw [wy_no hcn]; rfl
    · rw [wy_no hcn]; rfl
end FT
