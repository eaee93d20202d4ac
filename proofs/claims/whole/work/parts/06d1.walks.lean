/-! WALKS, printed by wip/whole/gen.py -/
theorem lX7_tone_X3 : ∀ w ∈ wsX30, w ∈ wsX7_tone := in_at [59, 60, 61, 62, 63, 64] (by decide +kernel)
theorem lX7_tone_X7 : ∀ w ∈ wsX70, w ∈ wsX7_tone := in_at [48, 49, 50, 51, 52, 53, 54, 55, 56, 57, 58] (by decide +kernel)
set_option maxHeartbeats 4000000 in
set_option maxRecDepth 100000 in
theorem ctX7_tone (G : gT) (F : Nat) (a : Nat → Nat → Nat) (m_hasSnapshot : Int32) (v_o1 : MZ) (v_o3 : HS) (g1 : Int32) (g2 : Int32) (o : (Int32 × nF × HS)) (hm : mX7_tone F v_o1 v_o3 g1 g2 = some o) : CT G yX7_tone wsX7_tone rmX7_tone [.ref (a 0 0), .int g1, .int g2] (wX7 G a m_hasSnapshot ++ wX3 G (a 1) v_o1 ++ wX2 G a v_o3) (fun v w => v = some (.int o.1) ∧ w = wX7 G a m_hasSnapshot ++ wX3 G (a 1) (v_o1.1, v_o1.2.1, o.2.1, v_o1.2.2.2.1, v_o1.2.2.2.2.1, v_o1.2.2.2.2.2) ++ wX2 G a o.2.2) := by
  refine CT_of (cc := cX7_tone) (maxL := 4) (ret := (some .int)) 1 (by decide +kernel) rfl rfl (cat_ok rfl) (fun X hX hR hN => ?_)
  have hX : Ok G X cX7_tone RX7 wsX7_tone 4 rmX7_tone := hX
  have hX3 : ∀ w ∈ wsX30, w ∈ wsX7_tone := lX7_tone_X3
  have hX7 : ∀ w ∈ wsX70, w ∈ wsX7_tone := lX7_tone_X7
  unfold mX7_tone at hm
  refine w_aload_n (pc := 0) hX dX7_tone_0 rfl rfl ?_
  refine gf_X7_maze (pc := 1) hX dX7_tone_1 hX7 (List.mem_of_getElem? (i := 1) rfl) 0 rfl rfl ?_
  refine w_iload_n (pc := 4) hX dX7_tone_4 rfl rfl ?_
  obtain ⟨r1, hr1, hm⟩ := bnd hm
  refine w_callpi (pc := 5) hX [1, 2, 3, 4, 5] (runV (rest := []) hX [1, 2, 3, 4, 5] (ctX3_hasCell G (a 1) v_o1 g1 r1 hr1) dX7_tone_5 1 gX7_tone_X3_hasCell rfl hyX3_hasCell ⟨Nat.le_of_ble_eq_true rfl, Nat.le_of_ble_eq_true rfl⟩ 1 rfl rfl rfl rfl (Nat.le_of_ble_eq_true rfl) ⟨Nat.le_of_ble_eq_true rfl, Nat.le_of_ble_eq_true rfl⟩ rfl (by decide +kernel)) rfl ⟨rfl, rfl⟩ ?_
  refine w_jn (T := fun x2 : Unit => WW G X 0 0 (wX7 G a m_hasSnapshot ++ wX3 G (a 1) v_o1 ++ wX2 G a v_o3) [none, none, none, none] 21 []) hm (fun x2 hm => ?_) (fun j3 hj3 hm => ?_)
  ·
    refine w_iconst (pc := 21) hX dX7_tone_21 ic_m1 ?_
    obtain rfl := som hm
    exact w_iret (pc := 22) hX hR dX7_tone_22 ⟨rfl, rfl⟩
  ·
    refine w_if_eq (pc := 8) (tgt := 21) hX dX7_tone_8 (by decide) hm (fun hm => ?_) (fun hm => ?_)
    ·
      exact w_lvs [false, false, false, false] (hj3 () hm)
    ·
      refine w_iload_n (pc := 11) hX dX7_tone_11 rfl rfl ?_
      refine w_if_lt (pc := 12) (tgt := 21) hX dX7_tone_12 (by decide) hm (fun hm => ?_) (fun hm => ?_)
      ·
        exact w_lvs [false, false, false, false] (hj3 () hm)
      ·
        refine w_iload_n (pc := 15) hX dX7_tone_15 rfl rfl ?_
        refine w_bipush (pc := 16) hX dX7_tone_16 bp_9 ?_
        refine w_icmp_le (pc := 18) (tgt := 23) hX dX7_tone_18 (by decide) hm (fun hm => ?_) (fun hm => ?_)
        ·
          refine w_aload_n (pc := 23) hX dX7_tone_23 rfl rfl ?_
          refine gf_X7_maze (pc := 24) hX dX7_tone_24 hX7 (List.mem_of_getElem? (i := 1) rfl) 0 rfl rfl ?_
          refine gf_X3_tones (pc := 27) hX dX7_tone_27 hX3 (List.mem_of_getElem? (i := 2) rfl) 1 rfl rfl ?_
          refine w_iload_n (pc := 30) hX dX7_tone_30 rfl rfl ?_
          obtain ⟨r4, hr4, hm⟩ := bnd hm
          refine w_callpi (pc := 31) hX [2] (runS (rest := []) hX [2] (ctX7_at G (a 1 1) 36 v_o1.2.2.1 g1 r4 hr4) dX7_tone_31 2 gX7_tone_X7_at rfl hyX7_at.2 ⟨Nat.le_of_ble_eq_true rfl, Nat.le_of_ble_eq_true rfl⟩ rfl rfl (Nat.le_of_ble_eq_true rfl) ⟨Nat.le_of_ble_eq_true rfl, Nat.le_of_ble_eq_true rfl⟩ rfl (by decide +kernel)) rfl ⟨rfl, rfl⟩ ?_
          refine w_istore_n (pc := 34) hX dX7_tone_34 rfl (Nat.le_of_ble_eq_true rfl) ?_
          refine w_aload_n (pc := 35) hX dX7_tone_35 rfl rfl ?_
          refine gf_X7_history (pc := 36) hX dX7_tone_36 hX7 (List.mem_of_getElem? (i := 3) rfl) 0 rfl rfl ?_
          refine w_aload_n (pc := 39) hX dX7_tone_39 rfl rfl ?_
          refine gf_X7_maze (pc := 40) hX dX7_tone_40 hX7 (List.mem_of_getElem? (i := 1) rfl) 0 rfl rfl ?_
          obtain ⟨r5, hr5, hm⟩ := bnd hm
          refine w_calldv (pc := 43) (ws' := wX7 G a m_hasSnapshot ++ wX3 G (a 1) v_o1 ++ wX2 G a r5) (os := [none, some 22, some 23, some 24, some 25, some 26, some 0, some 1, some 2, some 3, some 4, some 5, some 6, some 7, some 8, some 9, some 10, some 11, some 12, some 13, some 14, some 15, some 16, some 17, some 18, some 19, some 20, some 21]) 28 hX [6, 7, 8, 9, 10, 11, 12, 13, 14, 15, 16, 17, 18, 19, 20, 21, 22, 23, 24, 25, 26, 27, 1, 2, 3, 4, 5] (runV (rest := []) hX [6, 7, 8, 9, 10, 11, 12, 13, 14, 15, 16, 17, 18, 19, 20, 21, 22, 23, 24, 25, 26, 27, 1, 2, 3, 4, 5] (ctX2_push G F a (a 1) v_o3 v_o1 r5 hr5) dX7_tone_43 1 gX7_tone_X2_push rfl hyX2_push ⟨Nat.le_of_ble_eq_true rfl, Nat.le_of_ble_eq_true rfl⟩ 6 rfl rfl rfl rfl (Nat.le_of_ble_eq_true rfl) ⟨Nat.le_of_ble_eq_true rfl, Nat.le_of_ble_eq_true rfl⟩ rfl (by decide +kernel)) rfl rfl rfl (by decide +kernel) rfl ⟨rfl, rfl⟩ ?_
          refine w_aload_n (pc := 46) hX dX7_tone_46 rfl rfl ?_
          refine gf_X7_maze (pc := 47) hX dX7_tone_47 hX7 (List.mem_of_getElem? (i := 1) rfl) 0 rfl rfl ?_
          refine gf_X3_tones (pc := 50) hX dX7_tone_50 hX3 (List.mem_of_getElem? (i := 2) rfl) 1 rfl rfl ?_
          refine w_iload_n (pc := 53) hX dX7_tone_53 rfl rfl ?_
          refine w_iload_n (pc := 54) hX dX7_tone_54 rfl rfl ?_
          obtain ⟨r6, hr6, hm⟩ := bnd hm
          refine w_calldv (pc := 55) (ws' := wX7 G a m_hasSnapshot ++ wX3 G (a 1) (v_o1.1, v_o1.2.1, r6, v_o1.2.2.2.1, v_o1.2.2.2.2.1, v_o1.2.2.2.2.2) ++ wX2 G a r5) (os := [none, none, some 0, none, none, none, none, none, none, none, none, none, none, none, none, none, none, none, none, none, none, none, none, none, none, none, none, none]) 28 hX [2] (runS (rest := []) hX [2] (ctX7_put G (a 1 1) 36 v_o1.2.2.1 g1 g2 r6 hr6) dX7_tone_55 3 gX7_tone_X7_put rfl hyX7_put.2 ⟨Nat.le_of_ble_eq_true rfl, Nat.le_of_ble_eq_true rfl⟩ rfl rfl (Nat.le_of_ble_eq_true rfl) ⟨Nat.le_of_ble_eq_true rfl, Nat.le_of_ble_eq_true rfl⟩ rfl (by decide +kernel)) rfl rfl rfl (by decide +kernel) rfl ⟨rfl, rfl⟩ ?_
          refine w_iload_n (pc := 58) hX dX7_tone_58 rfl rfl ?_
          obtain rfl := som hm
          exact w_iret (pc := 59) hX hR dX7_tone_59 ⟨rfl, rfl⟩
        ·
          exact w_lvs [false, false, false, false] (hj3 () hm)

theorem lX7_carve_X7 : ∀ w ∈ wsX70, w ∈ wsX7_carve := in_at [110, 111, 112, 113, 114, 115, 116, 117, 118, 119, 120] (by decide +kernel)
set_option maxHeartbeats 4000000 in
set_option maxRecDepth 100000 in
theorem ctX7_carve (G : gT) (F : Nat) (a : Nat → Nat → Nat) (m_hasSnapshot : Int32) (v_o1 : MZ) (v_o3 : HS) (v_o5 : WY) (g1 : Int32) (g2 : Int32) (o : (Int32 × nF × HS × WY)) (hm : mX7_carve F v_o1 v_o3 v_o5 g1 g2 = some o) : CT G yX7_carve wsX7_carve rmX7_carve [.ref (a 0 0), .int g1, .int g2] (wX7 G a m_hasSnapshot ++ wX3 G (a 1) v_o1 ++ wX2 G a v_o3 ++ wX6 G (a 5) v_o5) (fun v w => v = some (.int o.1) ∧ w = wX7 G a m_hasSnapshot ++ wX3 G (a 1) (v_o1.1, v_o1.2.1, v_o1.2.2.1, o.2.1, v_o1.2.2.2.2.1, v_o1.2.2.2.2.2) ++ wX2 G a o.2.2.1 ++ wX6 G (a 5) o.2.2.2) := by
  refine CT_of (cc := cX7_carve) (maxL := 4) (ret := (some .int)) 1 (by decide +kernel) rfl rfl (cat_ok rfl) (fun X hX hR hN => ?_)
  have hX : Ok G X cX7_carve RX7 wsX7_carve 4 rmX7_carve := hX
  have hX7 : ∀ w ∈ wsX70, w ∈ wsX7_carve := lX7_carve_X7
  unfold mX7_carve at hm
  refine w_aload_n (pc := 0) hX dX7_carve_0 rfl rfl ?_
  refine gf_X7_maze (pc := 1) hX dX7_carve_1 hX7 (List.mem_of_getElem? (i := 1) rfl) 0 rfl rfl ?_
  refine w_iload_n (pc := 4) hX dX7_carve_4 rfl rfl ?_
  obtain ⟨r1, hr1, hm⟩ := bnd hm
  refine w_callpi (pc := 5) hX [1, 2, 3, 4, 5] (runV (rest := []) hX [1, 2, 3, 4, 5] (ctX3_hasCell G (a 1) v_o1 g1 r1 hr1) dX7_carve_5 1 gX7_carve_X3_hasCell rfl hyX3_hasCell ⟨Nat.le_of_ble_eq_true rfl, Nat.le_of_ble_eq_true rfl⟩ 1 rfl rfl rfl rfl (Nat.le_of_ble_eq_true rfl) ⟨Nat.le_of_ble_eq_true rfl, Nat.le_of_ble_eq_true rfl⟩ rfl (by decide +kernel)) rfl ⟨rfl, rfl⟩ ?_
  refine w_jn (T := fun x2 : Unit => WW G X 0 0 (wX7 G a m_hasSnapshot ++ wX3 G (a 1) v_o1 ++ wX2 G a v_o3 ++ wX6 G (a 5) v_o5) [none, none, none, none] 18 []) hm (fun x2 hm => ?_) (fun j3 hj3 hm => ?_)
  ·
    refine w_iconst (pc := 18) hX dX7_carve_18 ic_m1 ?_
    obtain rfl := som hm
    exact w_iret (pc := 19) hX hR dX7_carve_19 ⟨rfl, rfl⟩
  ·
    refine w_if_eq (pc := 8) (tgt := 18) hX dX7_carve_8 (by decide) hm (fun hm => ?_) (fun hm => ?_)
    ·
      exact w_lvs [false, false, false, false] (hj3 () hm)
    ·
      refine w_iload_n (pc := 11) hX dX7_carve_11 rfl rfl ?_
      obtain ⟨r4, hr4, hm⟩ := bnd hm
      refine w_callpi (pc := 12) hX [] (runS (rest := []) hX [] (ctX7_isDirection G g2 r4 hr4) dX7_carve_12 1 gX7_carve_X7_isDirection rfl hyX7_isDirection.2 ⟨Nat.le_of_ble_eq_true rfl, Nat.le_of_ble_eq_true rfl⟩ rfl rfl (Nat.le_of_ble_eq_true rfl) ⟨Nat.le_of_ble_eq_true rfl, Nat.le_of_ble_eq_true rfl⟩ rfl (by decide +kernel)) rfl ⟨rfl, rfl⟩ ?_
      refine w_if_ne (pc := 15) (tgt := 20) hX dX7_carve_15 (by decide) hm (fun hm => ?_) (fun hm => ?_)
      ·
        refine w_aload_n (pc := 20) hX dX7_carve_20 rfl rfl ?_
        refine gf_X7_maze (pc := 21) hX dX7_carve_21 hX7 (List.mem_of_getElem? (i := 1) rfl) 0 rfl rfl ?_
        refine w_iload_n (pc := 24) hX dX7_carve_24 rfl rfl ?_
        refine w_iload_n (pc := 25) hX dX7_carve_25 rfl rfl ?_
        obtain ⟨r5, hr5, hm⟩ := bnd hm
        refine w_callpi (pc := 26) hX [1, 2, 3, 4, 5] (runV (rest := []) hX [1, 2, 3, 4, 5] (ctX3_beside G (a 1) v_o1 g1 g2 r5 hr5) dX7_carve_26 2 gX7_carve_X3_beside rfl hyX3_beside ⟨Nat.le_of_ble_eq_true rfl, Nat.le_of_ble_eq_true rfl⟩ 1 rfl rfl rfl rfl (Nat.le_of_ble_eq_true rfl) ⟨Nat.le_of_ble_eq_true rfl, Nat.le_of_ble_eq_true rfl⟩ rfl (by decide +kernel)) rfl ⟨rfl, rfl⟩ ?_
        refine w_istore_n (pc := 29) hX dX7_carve_29 rfl (Nat.le_of_ble_eq_true rfl) ?_
        refine w_iload_n (pc := 30) hX dX7_carve_30 rfl rfl ?_
        refine w_iconst (pc := 31) hX dX7_carve_31 ic_m1 ?_
        refine w_icmp_ne (pc := 32) (tgt := 38) hX dX7_carve_32 (by decide) hm (fun hm => ?_) (fun hm => ?_)
        ·
          refine w_aload_n (pc := 38) hX dX7_carve_38 rfl rfl ?_
          refine gf_X7_ways (pc := 39) hX dX7_carve_39 hX7 (List.mem_of_getElem? (i := 2) rfl) 0 rfl rfl ?_
          refine w_aload_n (pc := 42) hX dX7_carve_42 rfl rfl ?_
          refine gf_X7_maze (pc := 43) hX dX7_carve_43 hX7 (List.mem_of_getElem? (i := 1) rfl) 0 rfl rfl ?_
          refine w_iload_n (pc := 46) hX dX7_carve_46 rfl rfl ?_
          obtain ⟨r6, hr6, hm⟩ := bnd hm
          refine w_calldv (pc := 47) (ws' := wX7 G a m_hasSnapshot ++ wX3 G (a 1) v_o1 ++ wX2 G a v_o3 ++ wX6 G (a 5) r6) (os := [none, some 5, some 6, some 7, some 8, some 9, none, none, none, none, none, none, none, none, none, none, none, none, none, none, none, none, none, none, none, none, none, none, some 0, some 1, some 2, some 3, some 4]) 33 hX [28, 29, 30, 31, 32, 1, 2, 3, 4, 5] (runV (rest := []) hX [28, 29, 30, 31, 32, 1, 2, 3, 4, 5] (ctX6_findFrom G F (a 5) (a 1) v_o5 v_o1 g1 r6 hr6) dX7_carve_47 2 gX7_carve_X6_findFrom rfl hyX6_findFrom ⟨Nat.le_of_ble_eq_true rfl, Nat.le_of_ble_eq_true rfl⟩ 28 rfl rfl rfl rfl (Nat.le_of_ble_eq_true rfl) ⟨Nat.le_of_ble_eq_true rfl, Nat.le_of_ble_eq_true rfl⟩ rfl (by decide +kernel)) rfl rfl rfl (by decide +kernel) rfl ⟨rfl, rfl⟩ ?_
          refine w_aload_n (pc := 50) hX dX7_carve_50 rfl rfl ?_
          refine gf_X7_ways (pc := 51) hX dX7_carve_51 hX7 (List.mem_of_getElem? (i := 2) rfl) 0 rfl rfl ?_
          refine w_iload_n (pc := 54) hX dX7_carve_54 rfl rfl ?_
          obtain ⟨r7, hr7, hm⟩ := bnd hm
          refine w_callpi (pc := 55) hX [28, 29, 30, 31, 32] (runV (rest := []) hX [28, 29, 30, 31, 32] (ctX6_reach G (a 5) r6 r5 r7 hr7) dX7_carve_55 1 gX7_carve_X6_reach rfl hyX6_reach ⟨Nat.le_of_ble_eq_true rfl, Nat.le_of_ble_eq_true rfl⟩ 28 rfl rfl rfl rfl (Nat.le_of_ble_eq_true rfl) ⟨Nat.le_of_ble_eq_true rfl, Nat.le_of_ble_eq_true rfl⟩ rfl (by decide +kernel)) rfl ⟨rfl, rfl⟩ ?_
          refine w_if_eq (pc := 58) (tgt := 64) hX dX7_carve_58 (by decide) hm (fun hm => ?_) (fun hm => ?_)
          ·
            refine w_aload_n (pc := 64) hX dX7_carve_64 rfl rfl ?_
            refine gf_X7_history (pc := 65) hX dX7_carve_65 hX7 (List.mem_of_getElem? (i := 3) rfl) 0 rfl rfl ?_
            refine w_aload_n (pc := 68) hX dX7_carve_68 rfl rfl ?_
            refine gf_X7_maze (pc := 69) hX dX7_carve_69 hX7 (List.mem_of_getElem? (i := 1) rfl) 0 rfl rfl ?_
            obtain ⟨r8, hr8, hm⟩ := bnd hm
            refine w_calldv (pc := 72) (ws' := wX7 G a m_hasSnapshot ++ wX3 G (a 1) v_o1 ++ wX2 G a r8 ++ wX6 G (a 5) r6) (os := [none, some 22, some 23, some 24, some 25, some 26, some 0, some 1, some 2, some 3, some 4, some 5, some 6, some 7, some 8, some 9, some 10, some 11, some 12, some 13, some 14, some 15, some 16, some 17, some 18, some 19, some 20, some 21, none, none, none, none, none]) 33 hX [6, 7, 8, 9, 10, 11, 12, 13, 14, 15, 16, 17, 18, 19, 20, 21, 22, 23, 24, 25, 26, 27, 1, 2, 3, 4, 5] (runV (rest := []) hX [6, 7, 8, 9, 10, 11, 12, 13, 14, 15, 16, 17, 18, 19, 20, 21, 22, 23, 24, 25, 26, 27, 1, 2, 3, 4, 5] (ctX2_push G F a (a 1) v_o3 v_o1 r8 hr8) dX7_carve_72 1 gX7_carve_X2_push rfl hyX2_push ⟨Nat.le_of_ble_eq_true rfl, Nat.le_of_ble_eq_true rfl⟩ 6 rfl rfl rfl rfl (Nat.le_of_ble_eq_true rfl) ⟨Nat.le_of_ble_eq_true rfl, Nat.le_of_ble_eq_true rfl⟩ rfl (by decide +kernel)) rfl rfl rfl (by decide +kernel) rfl ⟨rfl, rfl⟩ ?_
            refine w_aload_n (pc := 75) hX dX7_carve_75 rfl rfl ?_
            refine gf_X7_maze (pc := 76) hX dX7_carve_76 hX7 (List.mem_of_getElem? (i := 1) rfl) 0 rfl rfl ?_
            refine w_iload_n (pc := 79) hX dX7_carve_79 rfl rfl ?_
            refine w_iload_n (pc := 80) hX dX7_carve_80 rfl rfl ?_
            refine w_iconst (pc := 81) hX dX7_carve_81 ic_1 ?_
            obtain ⟨r9, hr9, hm⟩ := bnd hm
            refine w_calldv (pc := 82) (ws' := wX7 G a m_hasSnapshot ++ wX3 G (a 1) (v_o1.1, v_o1.2.1, v_o1.2.2.1, r9, v_o1.2.2.2.2.1, v_o1.2.2.2.2.2) ++ wX2 G a r8 ++ wX6 G (a 5) r6) (os := [none, some 0, some 1, some 2, some 3, some 4, none, none, none, none, none, none, none, none, none, none, none, none, none, none, none, none, none, none, none, none, none, none, none, none, none, none, none]) 33 hX [1, 2, 3, 4, 5] (runV (rest := []) hX [1, 2, 3, 4, 5] (ctX3_setPassage G (a 1) v_o1 g1 g2 (1 : Int32) r9 hr9) dX7_carve_82 3 gX7_carve_X3_setPassage rfl hyX3_setPassage ⟨Nat.le_of_ble_eq_true rfl, Nat.le_of_ble_eq_true rfl⟩ 1 rfl rfl rfl rfl (Nat.le_of_ble_eq_true rfl) ⟨Nat.le_of_ble_eq_true rfl, Nat.le_of_ble_eq_true rfl⟩ rfl (by decide +kernel)) rfl rfl rfl (by decide +kernel) rfl ⟨rfl, rfl⟩ ?_
            refine w_aload_n (pc := 85) hX dX7_carve_85 rfl rfl ?_
            refine gf_X7_maze (pc := 86) hX dX7_carve_86 hX7 (List.mem_of_getElem? (i := 1) rfl) 0 rfl rfl ?_
            obtain ⟨r10, hr10, hm⟩ := bnd hm
            refine w_callpi (pc := 89) hX [1, 2, 3, 4, 5] (runV (rest := []) hX [1, 2, 3, 4, 5] (ctX3_parts G F (a 1) (v_o1.1, v_o1.2.1, v_o1.2.2.1, r9, v_o1.2.2.2.2.1, v_o1.2.2.2.2.2) r10 hr10) dX7_carve_89 0 gX7_carve_X3_parts rfl hyX3_parts ⟨Nat.le_of_ble_eq_true rfl, Nat.le_of_ble_eq_true rfl⟩ 1 rfl rfl rfl rfl (Nat.le_of_ble_eq_true rfl) ⟨Nat.le_of_ble_eq_true rfl, Nat.le_of_ble_eq_true rfl⟩ rfl (by decide +kernel)) rfl ⟨rfl, rfl⟩ ?_
            obtain rfl := som hm
            exact w_iret (pc := 92) hX hR dX7_carve_92 ⟨rfl, rfl⟩
          ·
            refine w_bipush (pc := 61) hX dX7_carve_61 bp_m2 ?_
            obtain rfl := som hm
            exact w_iret (pc := 63) hX hR dX7_carve_63 ⟨rfl, rfl⟩
        ·
          refine w_bipush (pc := 35) hX dX7_carve_35 bp_m2 ?_
          obtain rfl := som hm
          exact w_iret (pc := 37) hX hR dX7_carve_37 ⟨rfl, rfl⟩
      ·
        exact w_lvs [false, false, false, false] (hj3 () hm)

theorem lX7_wall_X7 : ∀ w ∈ wsX70, w ∈ wsX7_wall := in_at [79, 80, 81, 82, 83, 84, 85, 86, 87, 88, 89] (by decide +kernel)
set_option maxHeartbeats 4000000 in
set_option maxRecDepth 100000 in
theorem ctX7_wall (G : gT) (F : Nat) (a : Nat → Nat → Nat) (m_hasSnapshot : Int32) (v_o1 : MZ) (v_o3 : HS) (g1 : Int32) (g2 : Int32) (o : (Int32 × nF × HS)) (hm : mX7_wall F v_o1 v_o3 g1 g2 = some o) : CT G yX7_wall wsX7_wall rmX7_wall [.ref (a 0 0), .int g1, .int g2] (wX7 G a m_hasSnapshot ++ wX3 G (a 1) v_o1 ++ wX2 G a v_o3) (fun v w => v = some (.int o.1) ∧ w = wX7 G a m_hasSnapshot ++ wX3 G (a 1) (v_o1.1, v_o1.2.1, v_o1.2.2.1, o.2.1, v_o1.2.2.2.2.1, v_o1.2.2.2.2.2) ++ wX2 G a o.2.2) := by
  refine CT_of (cc := cX7_wall) (maxL := 3) (ret := (some .int)) 0 (by decide +kernel) rfl rfl (cat_ok rfl) (fun X hX hR hN => ?_)
  have hX : Ok G X cX7_wall RX7 wsX7_wall 3 rmX7_wall := hX
  have hX7 : ∀ w ∈ wsX70, w ∈ wsX7_wall := lX7_wall_X7
  unfold mX7_wall at hm
  refine w_aload_n (pc := 0) hX dX7_wall_0 rfl rfl ?_
  refine gf_X7_maze (pc := 1) hX dX7_wall_1 hX7 (List.mem_of_getElem? (i := 1) rfl) 0 rfl rfl ?_
  refine w_iload_n (pc := 4) hX dX7_wall_4 rfl rfl ?_
  obtain ⟨r1, hr1, hm⟩ := bnd hm
  refine w_callpi (pc := 5) hX [1, 2, 3, 4, 5] (runV (rest := []) hX [1, 2, 3, 4, 5] (ctX3_hasCell G (a 1) v_o1 g1 r1 hr1) dX7_wall_5 1 gX7_wall_X3_hasCell rfl hyX3_hasCell ⟨Nat.le_of_ble_eq_true rfl, Nat.le_of_ble_eq_true rfl⟩ 1 rfl rfl rfl rfl (Nat.le_of_ble_eq_true rfl) ⟨Nat.le_of_ble_eq_true rfl, Nat.le_of_ble_eq_true rfl⟩ rfl (by decide +kernel)) rfl ⟨rfl, rfl⟩ ?_
  refine w_jn (T := fun x2 : Unit => WW G X 0 0 (wX7 G a m_hasSnapshot ++ wX3 G (a 1) v_o1 ++ wX2 G a v_o3) [none, none, none] 18 []) hm (fun x2 hm => ?_) (fun j3 hj3 hm => ?_)
  ·
    refine w_iconst (pc := 18) hX dX7_wall_18 ic_m1 ?_
    obtain rfl := som hm
    exact w_iret (pc := 19) hX hR dX7_wall_19 ⟨rfl, rfl⟩
  ·
    refine w_if_eq (pc := 8) (tgt := 18) hX dX7_wall_8 (by decide) hm (fun hm => ?_) (fun hm => ?_)
    ·
      exact w_lvs [false, false, false] (hj3 () hm)
    ·
      refine w_iload_n (pc := 11) hX dX7_wall_11 rfl rfl ?_
      obtain ⟨r4, hr4, hm⟩ := bnd hm
      refine w_callpi (pc := 12) hX [] (runS (rest := []) hX [] (ctX7_isDirection G g2 r4 hr4) dX7_wall_12 1 gX7_wall_X7_isDirection rfl hyX7_isDirection.2 ⟨Nat.le_of_ble_eq_true rfl, Nat.le_of_ble_eq_true rfl⟩ rfl rfl (Nat.le_of_ble_eq_true rfl) ⟨Nat.le_of_ble_eq_true rfl, Nat.le_of_ble_eq_true rfl⟩ rfl (by decide +kernel)) rfl ⟨rfl, rfl⟩ ?_
      refine w_if_ne (pc := 15) (tgt := 20) hX dX7_wall_15 (by decide) hm (fun hm => ?_) (fun hm => ?_)
      ·
        refine w_aload_n (pc := 20) hX dX7_wall_20 rfl rfl ?_
        refine gf_X7_maze (pc := 21) hX dX7_wall_21 hX7 (List.mem_of_getElem? (i := 1) rfl) 0 rfl rfl ?_
        refine w_iload_n (pc := 24) hX dX7_wall_24 rfl rfl ?_
        refine w_iload_n (pc := 25) hX dX7_wall_25 rfl rfl ?_
        obtain ⟨r5, hr5, hm⟩ := bnd hm
        refine w_callpi (pc := 26) hX [1, 2, 3, 4, 5] (runV (rest := []) hX [1, 2, 3, 4, 5] (ctX3_hasPassage G (a 1) v_o1 g1 g2 r5 hr5) dX7_wall_26 2 gX7_wall_X3_hasPassage rfl hyX3_hasPassage ⟨Nat.le_of_ble_eq_true rfl, Nat.le_of_ble_eq_true rfl⟩ 1 rfl rfl rfl rfl (Nat.le_of_ble_eq_true rfl) ⟨Nat.le_of_ble_eq_true rfl, Nat.le_of_ble_eq_true rfl⟩ rfl (by decide +kernel)) rfl ⟨rfl, rfl⟩ ?_
        refine w_if_ne (pc := 29) (tgt := 35) hX dX7_wall_29 (by decide) hm (fun hm => ?_) (fun hm => ?_)
        ·
          refine w_aload_n (pc := 35) hX dX7_wall_35 rfl rfl ?_
          refine gf_X7_history (pc := 36) hX dX7_wall_36 hX7 (List.mem_of_getElem? (i := 2) rfl) 0 rfl rfl ?_
          refine w_aload_n (pc := 39) hX dX7_wall_39 rfl rfl ?_
          refine gf_X7_maze (pc := 40) hX dX7_wall_40 hX7 (List.mem_of_getElem? (i := 1) rfl) 0 rfl rfl ?_
          obtain ⟨r6, hr6, hm⟩ := bnd hm
          refine w_calldv (pc := 43) (ws' := wX7 G a m_hasSnapshot ++ wX3 G (a 1) v_o1 ++ wX2 G a r6) (os := [none, some 22, some 23, some 24, some 25, some 26, some 0, some 1, some 2, some 3, some 4, some 5, some 6, some 7, some 8, some 9, some 10, some 11, some 12, some 13, some 14, some 15, some 16, some 17, some 18, some 19, some 20, some 21]) 28 hX [6, 7, 8, 9, 10, 11, 12, 13, 14, 15, 16, 17, 18, 19, 20, 21, 22, 23, 24, 25, 26, 27, 1, 2, 3, 4, 5] (runV (rest := []) hX [6, 7, 8, 9, 10, 11, 12, 13, 14, 15, 16, 17, 18, 19, 20, 21, 22, 23, 24, 25, 26, 27, 1, 2, 3, 4, 5] (ctX2_push G F a (a 1) v_o3 v_o1 r6 hr6) dX7_wall_43 1 gX7_wall_X2_push rfl hyX2_push ⟨Nat.le_of_ble_eq_true rfl, Nat.le_of_ble_eq_true rfl⟩ 6 rfl rfl rfl rfl (Nat.le_of_ble_eq_true rfl) ⟨Nat.le_of_ble_eq_true rfl, Nat.le_of_ble_eq_true rfl⟩ rfl (by decide +kernel)) rfl rfl rfl (by decide +kernel) rfl ⟨rfl, rfl⟩ ?_
          refine w_aload_n (pc := 46) hX dX7_wall_46 rfl rfl ?_
          refine gf_X7_maze (pc := 47) hX dX7_wall_47 hX7 (List.mem_of_getElem? (i := 1) rfl) 0 rfl rfl ?_
          refine w_iload_n (pc := 50) hX dX7_wall_50 rfl rfl ?_
          refine w_iload_n (pc := 51) hX dX7_wall_51 rfl rfl ?_
          refine w_iconst (pc := 52) hX dX7_wall_52 ic_0 ?_
          obtain ⟨r7, hr7, hm⟩ := bnd hm
          refine w_calldv (pc := 53) (ws' := wX7 G a m_hasSnapshot ++ wX3 G (a 1) (v_o1.1, v_o1.2.1, v_o1.2.2.1, r7, v_o1.2.2.2.2.1, v_o1.2.2.2.2.2) ++ wX2 G a r6) (os := [none, some 0, some 1, some 2, some 3, some 4, none, none, none, none, none, none, none, none, none, none, none, none, none, none, none, none, none, none, none, none, none, none]) 28 hX [1, 2, 3, 4, 5] (runV (rest := []) hX [1, 2, 3, 4, 5] (ctX3_setPassage G (a 1) v_o1 g1 g2 (0 : Int32) r7 hr7) dX7_wall_53 3 gX7_wall_X3_setPassage rfl hyX3_setPassage ⟨Nat.le_of_ble_eq_true rfl, Nat.le_of_ble_eq_true rfl⟩ 1 rfl rfl rfl rfl (Nat.le_of_ble_eq_true rfl) ⟨Nat.le_of_ble_eq_true rfl, Nat.le_of_ble_eq_true rfl⟩ rfl (by decide +kernel)) rfl rfl rfl (by decide +kernel) rfl ⟨rfl, rfl⟩ ?_
          refine w_aload_n (pc := 56) hX dX7_wall_56 rfl rfl ?_
          refine gf_X7_maze (pc := 57) hX dX7_wall_57 hX7 (List.mem_of_getElem? (i := 1) rfl) 0 rfl rfl ?_
          obtain ⟨r8, hr8, hm⟩ := bnd hm
          refine w_callpi (pc := 60) hX [1, 2, 3, 4, 5] (runV (rest := []) hX [1, 2, 3, 4, 5] (ctX3_parts G F (a 1) (v_o1.1, v_o1.2.1, v_o1.2.2.1, r7, v_o1.2.2.2.2.1, v_o1.2.2.2.2.2) r8 hr8) dX7_wall_60 0 gX7_wall_X3_parts rfl hyX3_parts ⟨Nat.le_of_ble_eq_true rfl, Nat.le_of_ble_eq_true rfl⟩ 1 rfl rfl rfl rfl (Nat.le_of_ble_eq_true rfl) ⟨Nat.le_of_ble_eq_true rfl, Nat.le_of_ble_eq_true rfl⟩ rfl (by decide +kernel)) rfl ⟨rfl, rfl⟩ ?_
          obtain rfl := som hm
          exact w_iret (pc := 63) hX hR dX7_wall_63 ⟨rfl, rfl⟩
        ·
          refine w_bipush (pc := 32) hX dX7_wall_32 bp_m2 ?_
          obtain rfl := som hm
          exact w_iret (pc := 34) hX hR dX7_wall_34 ⟨rfl, rfl⟩
      ·
        exact w_lvs [false, false, false] (hj3 () hm)

theorem lX7_door_X3 : ∀ w ∈ wsX30, w ∈ wsX7_door := in_at [74, 75, 76, 77, 78, 79] (by decide +kernel)
theorem lX7_door_X7 : ∀ w ∈ wsX70, w ∈ wsX7_door := in_at [63, 64, 65, 66, 67, 68, 69, 70, 71, 72, 73] (by decide +kernel)
set_option maxHeartbeats 4000000 in
set_option maxRecDepth 100000 in
theorem ctX7_door (G : gT) (F : Nat) (a : Nat → Nat → Nat) (m_hasSnapshot : Int32) (v_o1 : MZ) (v_o3 : HS) (g1 : Int32) (g2 : Int32) (g3 : Int32) (o : (Int32 × (nF × nF) × HS)) (hm : mX7_door F v_o1 v_o3 g1 g2 g3 = some o) : CT G yX7_door wsX7_door rmX7_door [.ref (a 0 0), .int g1, .int g2, .int g3] (wX7 G a m_hasSnapshot ++ wX3 G (a 1) v_o1 ++ wX2 G a v_o3) (fun v w => v = some (.int o.1) ∧ w = wX7 G a m_hasSnapshot ++ wX3 G (a 1) (v_o1.1, v_o1.2.1, v_o1.2.2.1, v_o1.2.2.2.1, o.2.1.1, o.2.1.2) ++ wX2 G a o.2.2) := by
  refine CT_of (cc := cX7_door) (maxL := 6) (ret := (some .int)) 2 (by decide +kernel) rfl rfl (cat_ok rfl) (fun X hX hR hN => ?_)
  have hX : Ok G X cX7_door RX7 wsX7_door 6 rmX7_door := hX
  have hX3 : ∀ w ∈ wsX30, w ∈ wsX7_door := lX7_door_X3
  have hX7 : ∀ w ∈ wsX70, w ∈ wsX7_door := lX7_door_X7
  unfold mX7_door at hm
  refine w_iload_n (pc := 0) hX dX7_door_0 rfl rfl ?_
  obtain ⟨r1, hr1, hm⟩ := bnd hm
  refine w_callpi (pc := 1) hX [] (runS (rest := []) hX [] (ctX7_isDoor G g1 r1 hr1) dX7_door_1 1 gX7_door_X7_isDoor rfl hyX7_isDoor.2 ⟨Nat.le_of_ble_eq_true rfl, Nat.le_of_ble_eq_true rfl⟩ rfl rfl (Nat.le_of_ble_eq_true rfl) ⟨Nat.le_of_ble_eq_true rfl, Nat.le_of_ble_eq_true rfl⟩ rfl (by decide +kernel)) rfl ⟨rfl, rfl⟩ ?_
  refine w_jn (T := fun x2 : Unit => WW G X 0 0 (wX7 G a m_hasSnapshot ++ wX3 G (a 1) v_o1 ++ wX2 G a v_o3) [none, none, none, none, none, none] 25 []) hm (fun x2 hm => ?_) (fun j3 hj3 hm => ?_)
  ·
    refine w_iconst (pc := 25) hX dX7_door_25 ic_m1 ?_
    obtain rfl := som hm
    exact w_iret (pc := 26) hX hR dX7_door_26 ⟨rfl, rfl⟩
  ·
    refine w_if_eq (pc := 4) (tgt := 25) hX dX7_door_4 (by decide) hm (fun hm => ?_) (fun hm => ?_)
    ·
      exact w_lvs [false, false, false, false, false, false] (hj3 () hm)
    ·
      refine w_aload_n (pc := 7) hX dX7_door_7 rfl rfl ?_
      refine gf_X7_maze (pc := 8) hX dX7_door_8 hX7 (List.mem_of_getElem? (i := 1) rfl) 0 rfl rfl ?_
      refine w_iload_n (pc := 11) hX dX7_door_11 rfl rfl ?_
      obtain ⟨r4, hr4, hm⟩ := bnd hm
      refine w_callpi (pc := 12) hX [1, 2, 3, 4, 5] (runV (rest := []) hX [1, 2, 3, 4, 5] (ctX3_hasCell G (a 1) v_o1 g2 r4 hr4) dX7_door_12 1 gX7_door_X3_hasCell rfl hyX3_hasCell ⟨Nat.le_of_ble_eq_true rfl, Nat.le_of_ble_eq_true rfl⟩ 1 rfl rfl rfl rfl (Nat.le_of_ble_eq_true rfl) ⟨Nat.le_of_ble_eq_true rfl, Nat.le_of_ble_eq_true rfl⟩ rfl (by decide +kernel)) rfl ⟨rfl, rfl⟩ ?_
      refine w_if_eq (pc := 15) (tgt := 25) hX dX7_door_15 (by decide) hm (fun hm => ?_) (fun hm => ?_)
      ·
        exact w_lvs [false, false, false, false, false, false] (hj3 () hm)
      ·
        refine w_iload_n (pc := 18) hX dX7_door_18 rfl rfl ?_
        obtain ⟨r5, hr5, hm⟩ := bnd hm
        refine w_callpi (pc := 19) hX [] (runS (rest := []) hX [] (ctX7_isDirection G g3 r5 hr5) dX7_door_19 1 gX7_door_X7_isDirection rfl hyX7_isDirection.2 ⟨Nat.le_of_ble_eq_true rfl, Nat.le_of_ble_eq_true rfl⟩ rfl rfl (Nat.le_of_ble_eq_true rfl) ⟨Nat.le_of_ble_eq_true rfl, Nat.le_of_ble_eq_true rfl⟩ rfl (by decide +kernel)) rfl ⟨rfl, rfl⟩ ?_
        refine w_if_ne (pc := 22) (tgt := 27) hX dX7_door_22 (by decide) hm (fun hm => ?_) (fun hm => ?_)
        ·
          refine w_iload_n (pc := 27) hX dX7_door_27 rfl rfl ?_
          refine w_jn (T := fun x6 : Int32 => WW G X 0 0 (wX7 G a m_hasSnapshot ++ wX3 G (a 1) v_o1 ++ wX2 G a v_o3) [some (.ref (a 0 0)), some (.int g1), some (.int g2), some (.int g3), none, none] 36 [.int x6]) hm (fun x6 hm => ?_) (fun j7 hj7 hm => ?_)
          ·
            refine w_istore (pc := 36) hX dX7_door_36 (Nat.le_of_ble_eq_true rfl) ?_
            refine w_aload_n (pc := 38) hX dX7_door_38 rfl rfl ?_
            refine gf_X7_maze (pc := 39) hX dX7_door_39 hX7 (List.mem_of_getElem? (i := 1) rfl) 0 rfl rfl ?_
            refine w_iload_n (pc := 42) hX dX7_door_42 rfl rfl ?_
            refine w_iload_n (pc := 43) hX dX7_door_43 rfl rfl ?_
            obtain ⟨r8, hr8, hm⟩ := bnd hm
            refine w_callpi (pc := 44) hX [1, 2, 3, 4, 5] (runV (rest := []) hX [1, 2, 3, 4, 5] (ctX3_beside G (a 1) v_o1 g2 g3 r8 hr8) dX7_door_44 2 gX7_door_X3_beside rfl hyX3_beside ⟨Nat.le_of_ble_eq_true rfl, Nat.le_of_ble_eq_true rfl⟩ 1 rfl rfl rfl rfl (Nat.le_of_ble_eq_true rfl) ⟨Nat.le_of_ble_eq_true rfl, Nat.le_of_ble_eq_true rfl⟩ rfl (by decide +kernel)) rfl ⟨rfl, rfl⟩ ?_
            refine w_iconst (pc := 47) hX dX7_door_47 ic_m1 ?_
            refine w_jn (T := fun x9 : Unit => WW G X 0 0 (wX7 G a m_hasSnapshot ++ wX3 G (a 1) v_o1 ++ wX2 G a v_o3) [none, none, none, none, none, none] 65 []) hm (fun x9 hm => ?_) (fun j10 hj10 hm => ?_)
            ·
              refine w_bipush (pc := 65) hX dX7_door_65 bp_m2 ?_
              obtain rfl := som hm
              exact w_iret (pc := 67) hX hR dX7_door_67 ⟨rfl, rfl⟩
            ·
              refine w_icmp_ne (pc := 48) (tgt := 65) hX dX7_door_48 (by decide) hm (fun hm => ?_) (fun hm => ?_)
              ·
                exact w_lvs [false, false, false, false, false, false] (hj10 () hm)
              ·
                refine w_aload_n (pc := 51) hX dX7_door_51 rfl rfl ?_
                refine gf_X7_maze (pc := 52) hX dX7_door_52 hX7 (List.mem_of_getElem? (i := 1) rfl) 0 rfl rfl ?_
                refine w_iload (pc := 55) hX dX7_door_55 rfl ?_
                refine w_iload_n (pc := 57) hX dX7_door_57 rfl rfl ?_
                refine w_iload_n (pc := 58) hX dX7_door_58 rfl rfl ?_
                obtain ⟨r11, hr11, hm⟩ := bnd hm
                refine w_callpi (pc := 59) hX [1, 2, 3, 4, 5] (runV (rest := []) hX [1, 2, 3, 4, 5] (ctX3_isDoorAt G (a 1) v_o1 x6 g2 g3 r11 hr11) dX7_door_59 3 gX7_door_X3_isDoorAt rfl hyX3_isDoorAt ⟨Nat.le_of_ble_eq_true rfl, Nat.le_of_ble_eq_true rfl⟩ 1 rfl rfl rfl rfl (Nat.le_of_ble_eq_true rfl) ⟨Nat.le_of_ble_eq_true rfl, Nat.le_of_ble_eq_true rfl⟩ rfl (by decide +kernel)) rfl ⟨rfl, rfl⟩ ?_
                refine w_if_eq (pc := 62) (tgt := 68) hX dX7_door_62 (by decide) hm (fun hm => ?_) (fun hm => ?_)
                ·
                  refine w_aload_n (pc := 68) hX dX7_door_68 rfl rfl ?_
                  refine gf_X7_maze (pc := 69) hX dX7_door_69 hX7 (List.mem_of_getElem? (i := 1) rfl) 0 rfl rfl ?_
                  refine gf_X3_doorCells (pc := 72) hX dX7_door_72 hX3 (List.mem_of_getElem? (i := 2) rfl) 1 rfl rfl ?_
                  refine w_iload_n (pc := 75) hX dX7_door_75 rfl rfl ?_
                  obtain ⟨r12, hr12, hm⟩ := bnd hm
                  refine w_callpi (pc := 76) hX [4] (runS (rest := []) hX [4] (ctX7_at G (a 1 3) 2 v_o1.2.2.2.2.1 g1 r12 hr12) dX7_door_76 2 gX7_door_X7_at rfl hyX7_at.2 ⟨Nat.le_of_ble_eq_true rfl, Nat.le_of_ble_eq_true rfl⟩ rfl rfl (Nat.le_of_ble_eq_true rfl) ⟨Nat.le_of_ble_eq_true rfl, Nat.le_of_ble_eq_true rfl⟩ rfl (by decide +kernel)) rfl ⟨rfl, rfl⟩ ?_
                  refine w_istore (pc := 79) hX dX7_door_79 (Nat.le_of_ble_eq_true rfl) ?_
                  refine w_aload_n (pc := 81) hX dX7_door_81 rfl rfl ?_
                  refine gf_X7_history (pc := 82) hX dX7_door_82 hX7 (List.mem_of_getElem? (i := 3) rfl) 0 rfl rfl ?_
                  refine w_aload_n (pc := 85) hX dX7_door_85 rfl rfl ?_
                  refine gf_X7_maze (pc := 86) hX dX7_door_86 hX7 (List.mem_of_getElem? (i := 1) rfl) 0 rfl rfl ?_
                  obtain ⟨r13, hr13, hm⟩ := bnd hm
                  refine w_calldv (pc := 89) (ws' := wX7 G a m_hasSnapshot ++ wX3 G (a 1) v_o1 ++ wX2 G a r13) (os := [none, some 22, some 23, some 24, some 25, some 26, some 0, some 1, some 2, some 3, some 4, some 5, some 6, some 7, some 8, some 9, some 10, some 11, some 12, some 13, some 14, some 15, some 16, some 17, some 18, some 19, some 20, some 21]) 28 hX [6, 7, 8, 9, 10, 11, 12, 13, 14, 15, 16, 17, 18, 19, 20, 21, 22, 23, 24, 25, 26, 27, 1, 2, 3, 4, 5] (runV (rest := []) hX [6, 7, 8, 9, 10, 11, 12, 13, 14, 15, 16, 17, 18, 19, 20, 21, 22, 23, 24, 25, 26, 27, 1, 2, 3, 4, 5] (ctX2_push G F a (a 1) v_o3 v_o1 r13 hr13) dX7_door_89 1 gX7_door_X2_push rfl hyX2_push ⟨Nat.le_of_ble_eq_true rfl, Nat.le_of_ble_eq_true rfl⟩ 6 rfl rfl rfl rfl (Nat.le_of_ble_eq_true rfl) ⟨Nat.le_of_ble_eq_true rfl, Nat.le_of_ble_eq_true rfl⟩ rfl (by decide +kernel)) rfl rfl rfl (by decide +kernel) rfl ⟨rfl, rfl⟩ ?_
                  refine w_aload_n (pc := 92) hX dX7_door_92 rfl rfl ?_
                  refine gf_X7_maze (pc := 93) hX dX7_door_93 hX7 (List.mem_of_getElem? (i := 1) rfl) 0 rfl rfl ?_
                  refine gf_X3_doorCells (pc := 96) hX dX7_door_96 hX3 (List.mem_of_getElem? (i := 2) rfl) 1 rfl rfl ?_
                  refine w_iload_n (pc := 99) hX dX7_door_99 rfl rfl ?_
                  refine w_iload_n (pc := 100) hX dX7_door_100 rfl rfl ?_
                  obtain ⟨r14, hr14, hm⟩ := bnd hm
                  refine w_calldv (pc := 101) (ws' := wX7 G a m_hasSnapshot ++ wX3 G (a 1) (v_o1.1, v_o1.2.1, v_o1.2.2.1, v_o1.2.2.2.1, r14, v_o1.2.2.2.2.2) ++ wX2 G a r13) (os := [none, none, none, none, some 0, none, none, none, none, none, none, none, none, none, none, none, none, none, none, none, none, none, none, none, none, none, none, none]) 28 hX [4] (runS (rest := []) hX [4] (ctX7_put G (a 1 3) 2 v_o1.2.2.2.2.1 g1 g2 r14 hr14) dX7_door_101 3 gX7_door_X7_put rfl hyX7_put.2 ⟨Nat.le_of_ble_eq_true rfl, Nat.le_of_ble_eq_true rfl⟩ rfl rfl (Nat.le_of_ble_eq_true rfl) ⟨Nat.le_of_ble_eq_true rfl, Nat.le_of_ble_eq_true rfl⟩ rfl (by decide +kernel)) rfl rfl rfl (by decide +kernel) rfl ⟨rfl, rfl⟩ ?_
                  refine w_aload_n (pc := 104) hX dX7_door_104 rfl rfl ?_
                  refine gf_X7_maze (pc := 105) hX dX7_door_105 hX7 (List.mem_of_getElem? (i := 1) rfl) 0 rfl rfl ?_
                  refine gf_X3_doorSides (pc := 108) hX dX7_door_108 hX3 (List.mem_of_getElem? (i := 4) rfl) 1 rfl rfl ?_
                  refine w_iload_n (pc := 111) hX dX7_door_111 rfl rfl ?_
                  refine w_iload_n (pc := 112) hX dX7_door_112 rfl rfl ?_
                  obtain ⟨r15, hr15, hm⟩ := bnd hm
                  refine w_calldv (pc := 113) (ws' := wX7 G a m_hasSnapshot ++ wX3 G (a 1) (v_o1.1, v_o1.2.1, v_o1.2.2.1, v_o1.2.2.2.1, r14, r15) ++ wX2 G a r13) (os := [none, none, none, none, none, some 0, none, none, none, none, none, none, none, none, none, none, none, none, none, none, none, none, none, none, none, none, none, none]) 28 hX [5] (runS (rest := []) hX [5] (ctX7_put G (a 1 4) 2 v_o1.2.2.2.2.2 g1 g3 r15 hr15) dX7_door_113 3 gX7_door_X7_put rfl hyX7_put.2 ⟨Nat.le_of_ble_eq_true rfl, Nat.le_of_ble_eq_true rfl⟩ rfl rfl (Nat.le_of_ble_eq_true rfl) ⟨Nat.le_of_ble_eq_true rfl, Nat.le_of_ble_eq_true rfl⟩ rfl (by decide +kernel)) rfl rfl rfl (by decide +kernel) rfl ⟨rfl, rfl⟩ ?_
                  refine w_iload (pc := 116) hX dX7_door_116 rfl ?_
                  obtain rfl := som hm
                  exact w_iret (pc := 118) hX hR dX7_door_118 ⟨rfl, rfl⟩
                ·
                  exact w_lvs [false, false, false, false, false, false] (hj10 () hm)
          ·
            refine w_if_ne (pc := 28) (tgt := 35) hX dX7_door_28 (by decide) hm (fun hm => ?_) (fun hm => ?_)
            ·
              refine w_iconst (pc := 35) hX dX7_door_35 ic_0 ?_
              exact w_lvs [true, true, true, true, false, false] (hj7 (0 : Int32) hm)
            ·
              refine w_iconst (pc := 31) hX dX7_door_31 ic_1 ?_
              refine w_goto (pc := 32) (tgt := 36) hX dX7_door_32 (by decide) ?_
              exact w_lvs [true, true, true, true, false, false] (hj7 (1 : Int32) hm)
        ·
          exact w_lvs [false, false, false, false, false, false] (hj3 () hm)

theorem lX7_build_X7 : ∀ w ∈ wsX70, w ∈ wsX7_build := in_at [120, 121, 122, 123, 124, 125, 126, 127, 128, 129, 130] (by decide +kernel)
set_option maxHeartbeats 4000000 in
set_option maxRecDepth 100000 in
theorem ctX7_build (G : gT) (F : Nat) (a : Nat → Nat → Nat) (m_hasSnapshot : Int32) (v_o1 : MZ) (v_o3 : HS) (v_o9 : BD) (o : (Int32 × nF × HS × BD)) (hm : mX7_build F v_o1 v_o3 v_o9 = some o) : CT G yX7_build wsX7_build rmX7_build [.ref (a 0 0)] (wX7 G a m_hasSnapshot ++ wX3 G (a 1) v_o1 ++ wX2 G a v_o3 ++ wX0 G (a 9) v_o9) (fun v w => v = some (.int o.1) ∧ w = wX7 G a m_hasSnapshot ++ wX3 G (a 1) (v_o1.1, v_o1.2.1, v_o1.2.2.1, o.2.1, v_o1.2.2.2.2.1, v_o1.2.2.2.2.2) ++ wX2 G a o.2.2.1 ++ wX0 G (a 9) o.2.2.2) := by
  refine CT_of (cc := cX7_build) (maxL := 1) (ret := (some .int)) 0 (by decide +kernel) rfl rfl (cat_ok rfl) (fun X hX hR hN => ?_)
  have hX : Ok G X cX7_build RX7 wsX7_build 1 rmX7_build := hX
  have hX7 : ∀ w ∈ wsX70, w ∈ wsX7_build := lX7_build_X7
  unfold mX7_build at hm
  refine w_aload_n (pc := 0) hX dX7_build_0 rfl rfl ?_
  refine gf_X7_maze (pc := 1) hX dX7_build_1 hX7 (List.mem_of_getElem? (i := 1) rfl) 0 rfl rfl ?_
  obtain ⟨r1, hr1, hm⟩ := bnd hm
  refine w_callpi (pc := 4) hX [1, 2, 3, 4, 5] (runV (rest := []) hX [1, 2, 3, 4, 5] (ctX3_isWhole G F (a 1) v_o1 r1 hr1) dX7_build_4 0 gX7_build_X3_isWhole rfl hyX3_isWhole ⟨Nat.le_of_ble_eq_true rfl, Nat.le_of_ble_eq_true rfl⟩ 1 rfl rfl rfl rfl (Nat.le_of_ble_eq_true rfl) ⟨Nat.le_of_ble_eq_true rfl, Nat.le_of_ble_eq_true rfl⟩ rfl (by decide +kernel)) rfl ⟨rfl, rfl⟩ ?_
  refine w_if_eq (pc := 7) (tgt := 13) hX dX7_build_7 (by decide) hm (fun hm => ?_) (fun hm => ?_)
  ·
    refine w_aload_n (pc := 13) hX dX7_build_13 rfl rfl ?_
    refine gf_X7_history (pc := 14) hX dX7_build_14 hX7 (List.mem_of_getElem? (i := 2) rfl) 0 rfl rfl ?_
    refine w_aload_n (pc := 17) hX dX7_build_17 rfl rfl ?_
    refine gf_X7_maze (pc := 18) hX dX7_build_18 hX7 (List.mem_of_getElem? (i := 1) rfl) 0 rfl rfl ?_
    obtain ⟨r2, hr2, hm⟩ := bnd hm
    refine w_calldv (pc := 21) (ws' := wX7 G a m_hasSnapshot ++ wX3 G (a 1) v_o1 ++ wX2 G a r2 ++ wX0 G (a 9) v_o9) (os := [none, some 22, some 23, some 24, some 25, some 26, some 0, some 1, some 2, some 3, some 4, some 5, some 6, some 7, some 8, some 9, some 10, some 11, some 12, some 13, some 14, some 15, some 16, some 17, some 18, some 19, some 20, some 21, none, none]) 30 hX [6, 7, 8, 9, 10, 11, 12, 13, 14, 15, 16, 17, 18, 19, 20, 21, 22, 23, 24, 25, 26, 27, 1, 2, 3, 4, 5] (runV (rest := []) hX [6, 7, 8, 9, 10, 11, 12, 13, 14, 15, 16, 17, 18, 19, 20, 21, 22, 23, 24, 25, 26, 27, 1, 2, 3, 4, 5] (ctX2_push G F a (a 1) v_o3 v_o1 r2 hr2) dX7_build_21 1 gX7_build_X2_push rfl hyX2_push ⟨Nat.le_of_ble_eq_true rfl, Nat.le_of_ble_eq_true rfl⟩ 6 rfl rfl rfl rfl (Nat.le_of_ble_eq_true rfl) ⟨Nat.le_of_ble_eq_true rfl, Nat.le_of_ble_eq_true rfl⟩ rfl (by decide +kernel)) rfl rfl rfl (by decide +kernel) rfl ⟨rfl, rfl⟩ ?_
    refine w_aload_n (pc := 24) hX dX7_build_24 rfl rfl ?_
    refine gf_X7_builder (pc := 25) hX dX7_build_25 hX7 (List.mem_of_getElem? (i := 3) rfl) 0 rfl rfl ?_
    refine w_aload_n (pc := 28) hX dX7_build_28 rfl rfl ?_
    refine gf_X7_maze (pc := 29) hX dX7_build_29 hX7 (List.mem_of_getElem? (i := 1) rfl) 0 rfl rfl ?_
    obtain ⟨r3, hr3, hm⟩ := bnd hm
    refine w_calldi (pc := 32) (ws' := wX7 G a m_hasSnapshot ++ wX3 G (a 1) (v_o1.1, v_o1.2.1, v_o1.2.2.1, r3.2.2, v_o1.2.2.2.2.1, v_o1.2.2.2.2.2) ++ wX2 G a r2 ++ wX0 G (a 9) r3.2.1) (os := [none, some 2, some 3, some 4, some 5, some 6, none, none, none, none, none, none, none, none, none, none, none, none, none, none, none, none, none, none, none, none, none, none, some 0, some 1]) 30 hX [28, 29, 1, 2, 3, 4, 5] (runV (rest := []) hX [28, 29, 1, 2, 3, 4, 5] (ctX0_joinAllParts G F (a 9) (a 1) v_o9 v_o1 r3 hr3) dX7_build_32 1 gX7_build_X0_joinAllParts rfl hyX0_joinAllParts ⟨Nat.le_of_ble_eq_true rfl, Nat.le_of_ble_eq_true rfl⟩ 28 rfl rfl rfl rfl (Nat.le_of_ble_eq_true rfl) ⟨Nat.le_of_ble_eq_true rfl, Nat.le_of_ble_eq_true rfl⟩ rfl (by decide +kernel)) rfl rfl rfl (by decide +kernel) rfl ⟨rfl, rfl⟩ ?_
    obtain rfl := som hm
    exact w_iret (pc := 35) hX hR dX7_build_35 ⟨rfl, rfl⟩
  ·
    refine w_bipush (pc := 10) hX dX7_build_10 bp_m2 ?_
    obtain rfl := som hm
    exact w_iret (pc := 12) hX hR dX7_build_12 ⟨rfl, rfl⟩

theorem lX7_findBetterExchange_X1 : ∀ w ∈ wsX10, w ∈ wsX7_findBetterExchange := in_at [128, 129, 130, 131, 132, 133] (by decide +kernel)
theorem lX7_findBetterExchange_X7 : ∀ w ∈ wsX70, w ∈ wsX7_findBetterExchange := in_at [117, 118, 119, 120, 121, 122, 123, 124, 125, 126, 127] (by decide +kernel)
set_option maxHeartbeats 4000000 in
set_option maxRecDepth 100000 in
theorem ctX7_findBetterExchange (G : gT) (F : Nat) (a : Nat → Nat → Nat) (m_hasSnapshot : Int32) (v_o1 : MZ) (v_o6 : WY) (v_o7 : WY) (v_o10 : EX) (o : (Int32 × WY × WY × EX)) (hm : mX7_findBetterExchange F v_o1 v_o6 v_o7 v_o10 = some o) : CT G yX7_findBetterExchange wsX7_findBetterExchange rmX7_findBetterExchange [.ref (a 0 0)] (wX7 G a m_hasSnapshot ++ wX3 G (a 1) v_o1 ++ wX6 G (a 6) v_o6 ++ wX6 G (a 7) v_o7 ++ wX1 G (a 10) v_o10) (fun v w => v = some (.int o.1) ∧ w = wX7 G a m_hasSnapshot ++ wX3 G (a 1) v_o1 ++ wX6 G (a 6) o.2.1 ++ wX6 G (a 7) o.2.2.1 ++ wX1 G (a 10) o.2.2.2) := by
  refine CT_of (cc := cX7_findBetterExchange) (maxL := 1) (ret := (some .boolean)) 0 (by decide +kernel) rfl rfl (cat_ok rfl) (fun X hX hR hN => ?_)
  have hX : Ok G X cX7_findBetterExchange RX7 wsX7_findBetterExchange 1 rmX7_findBetterExchange := hX
  have hX1 : ∀ w ∈ wsX10, w ∈ wsX7_findBetterExchange := lX7_findBetterExchange_X1
  have hX7 : ∀ w ∈ wsX70, w ∈ wsX7_findBetterExchange := lX7_findBetterExchange_X7
  unfold mX7_findBetterExchange at hm
  refine w_aload_n (pc := 0) hX dX7_findBetterExchange_0 rfl rfl ?_
  refine gf_X7_exchanger (pc := 1) hX dX7_findBetterExchange_1 hX7 (List.mem_of_getElem? (i := 1) rfl) 0 rfl rfl ?_
  refine w_aload_n (pc := 4) hX dX7_findBetterExchange_4 rfl rfl ?_
  refine gf_X7_maze (pc := 5) hX dX7_findBetterExchange_5 hX7 (List.mem_of_getElem? (i := 2) rfl) 0 rfl rfl ?_
  refine w_aload_n (pc := 8) hX dX7_findBetterExchange_8 rfl rfl ?_
  refine gf_X7_fromEntry (pc := 9) hX dX7_findBetterExchange_9 hX7 (List.mem_of_getElem? (i := 3) rfl) 0 rfl rfl ?_
  refine w_aload_n (pc := 12) hX dX7_findBetterExchange_12 rfl rfl ?_
  refine gf_X7_fromExit (pc := 13) hX dX7_findBetterExchange_13 hX7 (List.mem_of_getElem? (i := 4) rfl) 0 rfl rfl ?_
  obtain ⟨r1, hr1, hm⟩ := bnd hm
  refine w_calldv (pc := 16) (ws' := wX7 G a m_hasSnapshot ++ wX3 G (a 1) v_o1 ++ wX6 G (a 6) r1.2.1 ++ wX6 G (a 7) r1.2.2 ++ wX1 G (a 10) r1.1) (os := [none, some 2, some 3, some 4, some 5, some 6, some 7, some 8, some 9, some 10, some 11, some 12, some 13, some 14, some 15, some 16, some 0, some 1]) 18 hX [16, 17, 1, 2, 3, 4, 5, 6, 7, 8, 9, 10, 11, 12, 13, 14, 15] (runV (rest := []) hX [16, 17, 1, 2, 3, 4, 5, 6, 7, 8, 9, 10, 11, 12, 13, 14, 15] (ctX1_find G F (a 10) (a 1) (a 6) (a 7) v_o10 v_o1 v_o6 v_o7 r1 hr1) dX7_findBetterExchange_16 3 gX7_findBetterExchange_X1_find rfl hyX1_find ⟨Nat.le_of_ble_eq_true rfl, Nat.le_of_ble_eq_true rfl⟩ 16 rfl rfl rfl rfl (Nat.le_of_ble_eq_true rfl) ⟨Nat.le_of_ble_eq_true rfl, Nat.le_of_ble_eq_true rfl⟩ rfl (by decide +kernel)) rfl rfl rfl (by decide +kernel) rfl ⟨rfl, rfl⟩ ?_
  refine w_aload_n (pc := 19) hX dX7_findBetterExchange_19 rfl rfl ?_
  refine gf_X7_exchanger (pc := 20) hX dX7_findBetterExchange_20 hX7 (List.mem_of_getElem? (i := 1) rfl) 0 rfl rfl ?_
  refine gf_X1_made (pc := 23) hX dX7_findBetterExchange_23 hX1 (List.mem_of_getElem? (i := 5) rfl) 16 rfl rfl ?_
  refine w_iconst (pc := 26) hX dX7_findBetterExchange_26 ic_m1 ?_
  refine w_jn (T := fun x2 : Int32 => WW G X 0 0 (wX7 G a m_hasSnapshot ++ wX3 G (a 1) v_o1 ++ wX6 G (a 6) r1.2.1 ++ wX6 G (a 7) r1.2.2 ++ wX1 G (a 10) r1.1) [none] 52 [.int x2]) hm (fun x2 hm => ?_) (fun j3 hj3 hm => ?_)
  ·
    refine w_zret (pc := 52) hX hR dX7_findBetterExchange_52 hm (fun hm => ?_)
    obtain rfl := som hm
    exact ⟨rfl, rfl⟩
  ·
    refine w_jn (T := fun x4 : Unit => WW G X 0 0 (wX7 G a m_hasSnapshot ++ wX3 G (a 1) v_o1 ++ wX6 G (a 6) r1.2.1 ++ wX6 G (a 7) r1.2.2 ++ wX1 G (a 10) r1.1) [none] 51 []) hm (fun x4 hm => ?_) (fun j5 hj5 hm => ?_)
    ·
      refine w_iconst (pc := 51) hX dX7_findBetterExchange_51 ic_0 ?_
      exact w_lvs [false] (hj3 (0 : Int32) hm)
    ·
      refine w_icmp_eq (pc := 27) (tgt := 51) hX dX7_findBetterExchange_27 (by decide) hm (fun hm => ?_) (fun hm => ?_)
      ·
        exact w_lvs [false] (hj5 () hm)
      ·
        refine w_aload_n (pc := 30) hX dX7_findBetterExchange_30 rfl rfl ?_
        refine gf_X7_exchanger (pc := 31) hX dX7_findBetterExchange_31 hX7 (List.mem_of_getElem? (i := 1) rfl) 0 rfl rfl ?_
        refine gf_X1_faultThen (pc := 34) hX dX7_findBetterExchange_34 hX1 (List.mem_of_getElem? (i := 6) rfl) 16 rfl rfl ?_
        refine w_aload_n (pc := 37) hX dX7_findBetterExchange_37 rfl rfl ?_
        refine gf_X7_exchanger (pc := 38) hX dX7_findBetterExchange_38 hX7 (List.mem_of_getElem? (i := 1) rfl) 0 rfl rfl ?_
        refine gf_X1_faultNow (pc := 41) hX dX7_findBetterExchange_41 hX1 (List.mem_of_getElem? (i := 7) rfl) 16 rfl rfl ?_
        refine w_icmp_ge (pc := 44) (tgt := 51) hX dX7_findBetterExchange_44 (by decide) hm (fun hm => ?_) (fun hm => ?_)
        ·
          exact w_lvs [false] (hj5 () hm)
        ·
          refine w_iconst (pc := 47) hX dX7_findBetterExchange_47 ic_1 ?_
          refine w_goto (pc := 48) (tgt := 52) hX dX7_findBetterExchange_48 (by decide) ?_
          exact w_lvs [false] (hj3 (1 : Int32) hm)

theorem lX7_exchange_X1 : ∀ w ∈ wsX10, w ∈ wsX7_exchange := in_at [191, 192, 193, 194, 195, 196] (by decide +kernel)
theorem lX7_exchange_X7 : ∀ w ∈ wsX70, w ∈ wsX7_exchange := in_at [180, 181, 182, 183, 184, 185, 186, 187, 188, 189, 190] (by decide +kernel)
set_option maxHeartbeats 4000000 in
set_option maxRecDepth 100000 in
theorem ctX7_exchange (G : gT) (F : Nat) (a : Nat → Nat → Nat) (m_hasSnapshot : Int32) (v_o1 : MZ) (v_o3 : HS) (v_o6 : WY) (v_o7 : WY) (v_o10 : EX) (o : (Int32 × nF × HS × WY × WY × EX)) (hm : mX7_exchange F v_o1 v_o3 v_o6 v_o7 v_o10 = some o) : CT G yX7_exchange wsX7_exchange rmX7_exchange [.ref (a 0 0)] (wX7 G a m_hasSnapshot ++ wX3 G (a 1) v_o1 ++ wX2 G a v_o3 ++ wX6 G (a 6) v_o6 ++ wX6 G (a 7) v_o7 ++ wX1 G (a 10) v_o10) (fun v w => v = some (.int o.1) ∧ w = wX7 G a m_hasSnapshot ++ wX3 G (a 1) (v_o1.1, v_o1.2.1, v_o1.2.2.1, o.2.1, v_o1.2.2.2.2.1, v_o1.2.2.2.2.2) ++ wX2 G a o.2.2.1 ++ wX6 G (a 6) o.2.2.2.1 ++ wX6 G (a 7) o.2.2.2.2.1 ++ wX1 G (a 10) o.2.2.2.2.2) := by
  refine CT_of (cc := cX7_exchange) (maxL := 1) (ret := (some .int)) 0 (by decide +kernel) rfl rfl (cat_ok rfl) (fun X hX hR hN => ?_)
  have hX : Ok G X cX7_exchange RX7 wsX7_exchange 1 rmX7_exchange := hX
  have hX1 : ∀ w ∈ wsX10, w ∈ wsX7_exchange := lX7_exchange_X1
  have hX7 : ∀ w ∈ wsX70, w ∈ wsX7_exchange := lX7_exchange_X7
  unfold mX7_exchange at hm
  refine w_aload_n (pc := 0) hX dX7_exchange_0 rfl rfl ?_
  refine gf_X7_maze (pc := 1) hX dX7_exchange_1 hX7 (List.mem_of_getElem? (i := 1) rfl) 0 rfl rfl ?_
  obtain ⟨r1, hr1, hm⟩ := bnd hm
  refine w_callpi (pc := 4) hX [1, 2, 3, 4, 5] (runV (rest := []) hX [1, 2, 3, 4, 5] (ctX3_isWhole G F (a 1) v_o1 r1 hr1) dX7_exchange_4 0 gX7_exchange_X3_isWhole rfl hyX3_isWhole ⟨Nat.le_of_ble_eq_true rfl, Nat.le_of_ble_eq_true rfl⟩ 1 rfl rfl rfl rfl (Nat.le_of_ble_eq_true rfl) ⟨Nat.le_of_ble_eq_true rfl, Nat.le_of_ble_eq_true rfl⟩ rfl (by decide +kernel)) rfl ⟨rfl, rfl⟩ ?_
  refine w_jn (T := fun x2 : (WY × WY × EX) => WW G X 0 0 (wX7 G a m_hasSnapshot ++ wX3 G (a 1) v_o1 ++ wX2 G a v_o3 ++ wX6 G (a 6) x2.1 ++ wX6 G (a 7) x2.2.1 ++ wX1 G (a 10) x2.2.2) [none] 17 []) hm (fun x2 hm => ?_) (fun j3 hj3 hm => ?_)
  ·
    refine w_bipush (pc := 17) hX dX7_exchange_17 bp_m2 ?_
    obtain rfl := som hm
    exact w_iret (pc := 19) hX hR dX7_exchange_19 ⟨rfl, rfl⟩
  ·
    refine w_if_eq (pc := 7) (tgt := 17) hX dX7_exchange_7 (by decide) hm (fun hm => ?_) (fun hm => ?_)
    ·
      exact w_lvs [false] (hj3 (v_o6, v_o7, v_o10) hm)
    ·
      refine w_aload_n (pc := 10) hX dX7_exchange_10 rfl rfl ?_
      obtain ⟨r4, hr4, hm⟩ := bnd hm
      refine w_calldi (pc := 11) (ws' := wX7 G a m_hasSnapshot ++ wX3 G (a 1) v_o1 ++ wX2 G a v_o3 ++ wX6 G (a 6) r4.2.1 ++ wX6 G (a 7) r4.2.2.1 ++ wX1 G (a 10) r4.2.2.2) (os := [some 0, some 1, some 2, some 3, some 4, some 5, none, none, none, none, none, none, none, none, none, none, none, none, none, none, none, none, none, none, none, none, none, none, some 6, some 7, some 8, some 9, some 10, some 11, some 12, some 13, some 14, some 15, some 16, some 17]) 40 hX [0, 1, 2, 3, 4, 5, 28, 29, 30, 31, 32, 33, 34, 35, 36, 37, 38, 39] (runV (rest := []) hX [0, 1, 2, 3, 4, 5, 28, 29, 30, 31, 32, 33, 34, 35, 36, 37, 38, 39] (ctX7_findBetterExchange G F a m_hasSnapshot v_o1 v_o6 v_o7 v_o10 r4 hr4) dX7_exchange_11 0 gX7_exchange_X7_findBetterExchange rfl hyX7_findBetterExchange ⟨Nat.le_of_ble_eq_true rfl, Nat.le_of_ble_eq_true rfl⟩ 0 rfl rfl rfl rfl (Nat.le_of_ble_eq_true rfl) ⟨Nat.le_of_ble_eq_true rfl, Nat.le_of_ble_eq_true rfl⟩ rfl (by decide +kernel)) rfl rfl rfl (by decide +kernel) rfl ⟨rfl, rfl⟩ ?_
      refine w_if_ne (pc := 14) (tgt := 20) hX dX7_exchange_14 (by decide) hm (fun hm => ?_) (fun hm => ?_)
      ·
        refine w_aload_n (pc := 20) hX dX7_exchange_20 rfl rfl ?_
        refine gf_X7_history (pc := 21) hX dX7_exchange_21 hX7 (List.mem_of_getElem? (i := 2) rfl) 0 rfl rfl ?_
        refine w_aload_n (pc := 24) hX dX7_exchange_24 rfl rfl ?_
        refine gf_X7_maze (pc := 25) hX dX7_exchange_25 hX7 (List.mem_of_getElem? (i := 1) rfl) 0 rfl rfl ?_
        obtain ⟨r5, hr5, hm⟩ := bnd hm
        refine w_calldv (pc := 28) (ws' := wX7 G a m_hasSnapshot ++ wX3 G (a 1) v_o1 ++ wX2 G a r5 ++ wX6 G (a 6) r4.2.1 ++ wX6 G (a 7) r4.2.2.1 ++ wX1 G (a 10) r4.2.2.2) (os := [none, some 22, some 23, some 24, some 25, some 26, some 0, some 1, some 2, some 3, some 4, some 5, some 6, some 7, some 8, some 9, some 10, some 11, some 12, some 13, some 14, some 15, some 16, some 17, some 18, some 19, some 20, some 21, none, none, none, none, none, none, none, none, none, none, none, none]) 40 hX [6, 7, 8, 9, 10, 11, 12, 13, 14, 15, 16, 17, 18, 19, 20, 21, 22, 23, 24, 25, 26, 27, 1, 2, 3, 4, 5] (runV (rest := []) hX [6, 7, 8, 9, 10, 11, 12, 13, 14, 15, 16, 17, 18, 19, 20, 21, 22, 23, 24, 25, 26, 27, 1, 2, 3, 4, 5] (ctX2_push G F a (a 1) v_o3 v_o1 r5 hr5) dX7_exchange_28 1 gX7_exchange_X2_push rfl hyX2_push ⟨Nat.le_of_ble_eq_true rfl, Nat.le_of_ble_eq_true rfl⟩ 6 rfl rfl rfl rfl (Nat.le_of_ble_eq_true rfl) ⟨Nat.le_of_ble_eq_true rfl, Nat.le_of_ble_eq_true rfl⟩ rfl (by decide +kernel)) rfl rfl rfl (by decide +kernel) rfl ⟨rfl, rfl⟩ ?_
        refine w_aload_n (pc := 31) hX dX7_exchange_31 rfl rfl ?_
        refine gf_X7_exchanger (pc := 32) hX dX7_exchange_32 hX7 (List.mem_of_getElem? (i := 3) rfl) 0 rfl rfl ?_
        refine w_aload_n (pc := 35) hX dX7_exchange_35 rfl rfl ?_
        refine gf_X7_maze (pc := 36) hX dX7_exchange_36 hX7 (List.mem_of_getElem? (i := 1) rfl) 0 rfl rfl ?_
        obtain ⟨r6, hr6, hm⟩ := bnd hm
        refine w_calldv (pc := 39) (ws' := wX7 G a m_hasSnapshot ++ wX3 G (a 1) (v_o1.1, v_o1.2.1, v_o1.2.2.1, r6, v_o1.2.2.2.2.1, v_o1.2.2.2.2.2) ++ wX2 G a r5 ++ wX6 G (a 6) r4.2.1 ++ wX6 G (a 7) r4.2.2.1 ++ wX1 G (a 10) r4.2.2.2) (os := [none, some 2, some 3, some 4, some 5, some 6, none, none, none, none, none, none, none, none, none, none, none, none, none, none, none, none, none, none, none, none, none, none, none, none, none, none, none, none, none, none, none, none, some 0, some 1]) 40 hX [38, 39, 1, 2, 3, 4, 5] (runV (rest := []) hX [38, 39, 1, 2, 3, 4, 5] (ctX1_apply G (a 10) (a 1) r4.2.2.2 v_o1 r6 hr6) dX7_exchange_39 1 gX7_exchange_X1_apply rfl hyX1_apply ⟨Nat.le_of_ble_eq_true rfl, Nat.le_of_ble_eq_true rfl⟩ 38 rfl rfl rfl rfl (Nat.le_of_ble_eq_true rfl) ⟨Nat.le_of_ble_eq_true rfl, Nat.le_of_ble_eq_true rfl⟩ rfl (by decide +kernel)) rfl rfl rfl (by decide +kernel) rfl ⟨rfl, rfl⟩ ?_
        refine w_aload_n (pc := 42) hX dX7_exchange_42 rfl rfl ?_
        refine gf_X7_exchanger (pc := 43) hX dX7_exchange_43 hX7 (List.mem_of_getElem? (i := 3) rfl) 0 rfl rfl ?_
        refine gf_X1_faultThen (pc := 46) hX dX7_exchange_46 hX1 (List.mem_of_getElem? (i := 4) rfl) 38 rfl rfl ?_
        obtain rfl := som hm
        exact w_iret (pc := 49) hX hR dX7_exchange_49 ⟨rfl, rfl⟩
      ·
        exact w_lvs [false] (hj3 (r4.2.1, r4.2.2.1, r4.2.2.2) hm)

theorem lX7_improve_X7 : ∀ w ∈ wsX70, w ∈ wsX7_improve := in_at [180, 181, 182, 183, 184, 185, 186, 187, 188, 189, 190] (by decide +kernel)
set_option maxHeartbeats 4000000 in
set_option maxRecDepth 100000 in
theorem ctX7_improve (G : gT) (F : Nat) (a : Nat → Nat → Nat) (m_hasSnapshot : Int32) (v_o1 : MZ) (v_o3 : HS) (v_o6 : WY) (v_o7 : WY) (v_o10 : EX) (o : (Int32 × nF × HS × WY × WY × EX)) (hm : mX7_improve F v_o1 v_o3 v_o6 v_o7 v_o10 = some o) : CT G yX7_improve wsX7_improve rmX7_improve [.ref (a 0 0)] (wX7 G a m_hasSnapshot ++ wX3 G (a 1) v_o1 ++ wX2 G a v_o3 ++ wX6 G (a 6) v_o6 ++ wX6 G (a 7) v_o7 ++ wX1 G (a 10) v_o10) (fun v w => v = some (.int o.1) ∧ w = wX7 G a m_hasSnapshot ++ wX3 G (a 1) (v_o1.1, v_o1.2.1, v_o1.2.2.1, o.2.1, v_o1.2.2.2.2.1, v_o1.2.2.2.2.2) ++ wX2 G a o.2.2.1 ++ wX6 G (a 6) o.2.2.2.1 ++ wX6 G (a 7) o.2.2.2.2.1 ++ wX1 G (a 10) o.2.2.2.2.2) := by
  refine CT_of (cc := cX7_improve) (maxL := 3) (ret := (some .int)) 2 (by decide +kernel) rfl rfl (cat_ok rfl) (fun X hX hR hN => ?_)
  have hX : Ok G X cX7_improve RX7 wsX7_improve 3 rmX7_improve := hX
  have hX7 : ∀ w ∈ wsX70, w ∈ wsX7_improve := lX7_improve_X7
  unfold mX7_improve at hm
  refine w_aload_n (pc := 0) hX dX7_improve_0 rfl rfl ?_
  refine gf_X7_maze (pc := 1) hX dX7_improve_1 hX7 (List.mem_of_getElem? (i := 1) rfl) 0 rfl rfl ?_
  obtain ⟨r1, hr1, hm⟩ := bnd hm
  refine w_callpi (pc := 4) hX [1, 2, 3, 4, 5] (runV (rest := []) hX [1, 2, 3, 4, 5] (ctX3_isWhole G F (a 1) v_o1 r1 hr1) dX7_improve_4 0 gX7_improve_X3_isWhole rfl hyX3_isWhole ⟨Nat.le_of_ble_eq_true rfl, Nat.le_of_ble_eq_true rfl⟩ 1 rfl rfl rfl rfl (Nat.le_of_ble_eq_true rfl) ⟨Nat.le_of_ble_eq_true rfl, Nat.le_of_ble_eq_true rfl⟩ rfl (by decide +kernel)) rfl ⟨rfl, rfl⟩ ?_
  refine w_if_ne (pc := 7) (tgt := 13) hX dX7_improve_7 (by decide) hm (fun hm => ?_) (fun hm => ?_)
  ·
    refine w_aload_n (pc := 13) hX dX7_improve_13 rfl rfl ?_
    refine gf_X7_history (pc := 14) hX dX7_improve_14 hX7 (List.mem_of_getElem? (i := 2) rfl) 0 rfl rfl ?_
    refine w_aload_n (pc := 17) hX dX7_improve_17 rfl rfl ?_
    refine gf_X7_maze (pc := 18) hX dX7_improve_18 hX7 (List.mem_of_getElem? (i := 1) rfl) 0 rfl rfl ?_
    obtain ⟨r2, hr2, hm⟩ := bnd hm
    refine w_calldv (pc := 21) (ws' := wX7 G a m_hasSnapshot ++ wX3 G (a 1) v_o1 ++ wX2 G a r2 ++ wX6 G (a 6) v_o6 ++ wX6 G (a 7) v_o7 ++ wX1 G (a 10) v_o10) (os := [none, some 22, some 23, some 24, some 25, some 26, some 0, some 1, some 2, some 3, some 4, some 5, some 6, some 7, some 8, some 9, some 10, some 11, some 12, some 13, some 14, some 15, some 16, some 17, some 18, some 19, some 20, some 21, none, none, none, none, none, none, none, none, none, none, none, none]) 40 hX [6, 7, 8, 9, 10, 11, 12, 13, 14, 15, 16, 17, 18, 19, 20, 21, 22, 23, 24, 25, 26, 27, 1, 2, 3, 4, 5] (runV (rest := []) hX [6, 7, 8, 9, 10, 11, 12, 13, 14, 15, 16, 17, 18, 19, 20, 21, 22, 23, 24, 25, 26, 27, 1, 2, 3, 4, 5] (ctX2_push G F a (a 1) v_o3 v_o1 r2 hr2) dX7_improve_21 1 gX7_improve_X2_push rfl hyX2_push ⟨Nat.le_of_ble_eq_true rfl, Nat.le_of_ble_eq_true rfl⟩ 6 rfl rfl rfl rfl (Nat.le_of_ble_eq_true rfl) ⟨Nat.le_of_ble_eq_true rfl, Nat.le_of_ble_eq_true rfl⟩ rfl (by decide +kernel)) rfl rfl rfl (by decide +kernel) rfl ⟨rfl, rfl⟩ ?_
    refine w_sipush (pc := 24) hX dX7_improve_24 sp_324 ?_
    refine w_istore_n (pc := 27) hX dX7_improve_27 rfl (Nat.le_of_ble_eq_true rfl) ?_
    refine w_iconst (pc := 28) hX dX7_improve_28 ic_0 ?_
    refine w_istore_n (pc := 29) hX dX7_improve_29 rfl (Nat.le_of_ble_eq_true rfl) ?_
    refine w_jn (T := fun x3 : (Int32 × nF × WY × WY × EX) => WW G X 0 0 (wX7 G a m_hasSnapshot ++ wX3 G (a 1) (v_o1.1, v_o1.2.1, v_o1.2.2.1, x3.2.1, v_o1.2.2.2.2.1, v_o1.2.2.2.2.2) ++ wX2 G a r2 ++ wX6 G (a 6) x3.2.2.1 ++ wX6 G (a 7) x3.2.2.2.1 ++ wX1 G (a 10) x3.2.2.2.2) [none, none, some (.int x3.1)] 59 []) hm (fun x3 hm => ?_) (fun j4 hj4 hm => ?_)
    ·
      unfold mX7_improve_K59 at hm
      refine w_iload_n (pc := 59) hX dX7_improve_59 rfl rfl ?_
      obtain rfl := som hm
      exact w_iret (pc := 60) hX hR dX7_improve_60 ⟨rfl, rfl⟩
    ·
      refine w_lvs [true, true, true] ?_
      refine lpr_ind (T := fun x5 : (Int32 × nF × WY × WY × EX) => WW G X 0 0 (wX7 G a m_hasSnapshot ++ wX3 G (a 1) (v_o1.1, v_o1.2.1, v_o1.2.2.1, x5.2.1, v_o1.2.2.2.2.1, v_o1.2.2.2.2.2) ++ wX2 G a r2 ++ wX6 G (a 6) x5.2.2.1 ++ wX6 G (a 7) x5.2.2.2.1 ++ wX1 G (a 10) x5.2.2.2.2) [some (.ref (a 0 0)), some (.int (324 : Int32)), some (.int x5.1)] 30 []) (fun self6 hself6 x5 hm => ?_) F ((0 : Int32), v_o1.2.2.2.1, v_o6, v_o7, v_o10) hm
      unfold mX7_improve_L30 at hm
      refine w_iload_n (pc := 30) hX dX7_improve_30 rfl rfl ?_
      refine w_iload_n (pc := 31) hX dX7_improve_31 rfl rfl ?_
      refine w_icmp_ge (pc := 32) (tgt := 59) hX dX7_improve_32 (by decide) hm (fun hm => ?_) (fun hm => ?_)
      ·
        exact w_lvs [false, false, true] (hj4 (x5.1, x5.2.1, x5.2.2.1, x5.2.2.2.1, x5.2.2.2.2) hm)
      ·
        refine w_aload_n (pc := 35) hX dX7_improve_35 rfl rfl ?_
        obtain ⟨r7, hr7, hm⟩ := bnd hm
        refine w_calldi (pc := 36) (ws' := wX7 G a m_hasSnapshot ++ wX3 G (a 1) (v_o1.1, v_o1.2.1, v_o1.2.2.1, x5.2.1, v_o1.2.2.2.2.1, v_o1.2.2.2.2.2) ++ wX2 G a r2 ++ wX6 G (a 6) r7.2.1 ++ wX6 G (a 7) r7.2.2.1 ++ wX1 G (a 10) r7.2.2.2) (os := [some 0, some 1, some 2, some 3, some 4, some 5, none, none, none, none, none, none, none, none, none, none, none, none, none, none, none, none, none, none, none, none, none, none, some 6, some 7, some 8, some 9, some 10, some 11, some 12, some 13, some 14, some 15, some 16, some 17]) 40 hX [0, 1, 2, 3, 4, 5, 28, 29, 30, 31, 32, 33, 34, 35, 36, 37, 38, 39] (runV (rest := []) hX [0, 1, 2, 3, 4, 5, 28, 29, 30, 31, 32, 33, 34, 35, 36, 37, 38, 39] (ctX7_findBetterExchange G F a m_hasSnapshot (v_o1.1, v_o1.2.1, v_o1.2.2.1, x5.2.1, v_o1.2.2.2.2.1, v_o1.2.2.2.2.2) x5.2.2.1 x5.2.2.2.1 x5.2.2.2.2 r7 hr7) dX7_improve_36 0 gX7_improve_X7_findBetterExchange rfl hyX7_findBetterExchange ⟨Nat.le_of_ble_eq_true rfl, Nat.le_of_ble_eq_true rfl⟩ 0 rfl rfl rfl rfl (Nat.le_of_ble_eq_true rfl) ⟨Nat.le_of_ble_eq_true rfl, Nat.le_of_ble_eq_true rfl⟩ rfl (by decide +kernel)) rfl rfl rfl (by decide +kernel) rfl ⟨rfl, rfl⟩ ?_
        refine w_if_eq (pc := 39) (tgt := 59) hX dX7_improve_39 (by decide) hm (fun hm => ?_) (fun hm => ?_)
        ·
          exact w_lvs [false, false, true] (hj4 (x5.1, x5.2.1, r7.2.1, r7.2.2.1, r7.2.2.2) hm)
        ·
          refine w_aload_n (pc := 42) hX dX7_improve_42 rfl rfl ?_
          refine gf_X7_exchanger (pc := 43) hX dX7_improve_43 hX7 (List.mem_of_getElem? (i := 3) rfl) 0 rfl rfl ?_
          refine w_aload_n (pc := 46) hX dX7_improve_46 rfl rfl ?_
          refine gf_X7_maze (pc := 47) hX dX7_improve_47 hX7 (List.mem_of_getElem? (i := 1) rfl) 0 rfl rfl ?_
          obtain ⟨r8, hr8, hm⟩ := bnd hm
          refine w_calldv (pc := 50) (ws' := wX7 G a m_hasSnapshot ++ wX3 G (a 1) (v_o1.1, v_o1.2.1, v_o1.2.2.1, r8, v_o1.2.2.2.2.1, v_o1.2.2.2.2.2) ++ wX2 G a r2 ++ wX6 G (a 6) r7.2.1 ++ wX6 G (a 7) r7.2.2.1 ++ wX1 G (a 10) r7.2.2.2) (os := [none, some 2, some 3, some 4, some 5, some 6, none, none, none, none, none, none, none, none, none, none, none, none, none, none, none, none, none, none, none, none, none, none, none, none, none, none, none, none, none, none, none, none, some 0, some 1]) 40 hX [38, 39, 1, 2, 3, 4, 5] (runV (rest := []) hX [38, 39, 1, 2, 3, 4, 5] (ctX1_apply G (a 10) (a 1) r7.2.2.2 (v_o1.1, v_o1.2.1, v_o1.2.2.1, x5.2.1, v_o1.2.2.2.2.1, v_o1.2.2.2.2.2) r8 hr8) dX7_improve_50 1 gX7_improve_X1_apply rfl hyX1_apply ⟨Nat.le_of_ble_eq_true rfl, Nat.le_of_ble_eq_true rfl⟩ 38 rfl rfl rfl rfl (Nat.le_of_ble_eq_true rfl) ⟨Nat.le_of_ble_eq_true rfl, Nat.le_of_ble_eq_true rfl⟩ rfl (by decide +kernel)) rfl rfl rfl (by decide +kernel) rfl ⟨rfl, rfl⟩ ?_
          refine w_iinc (pc := 53) hX dX7_improve_53 rfl (Nat.le_of_ble_eq_true rfl) ic_1 ?_
          refine w_goto (pc := 56) (tgt := 30) hX dX7_improve_56 (by decide) ?_
          exact w_lvs [true, true, true] (hself6 (x5.1 + (1 : Int32), r8, r7.2.1, r7.2.2.1, r7.2.2.2) hm)
  ·
    refine w_bipush (pc := 10) hX dX7_improve_10 bp_m2 ?_
    obtain rfl := som hm
    exact w_iret (pc := 12) hX hR dX7_improve_12 ⟨rfl, rfl⟩

theorem lX7_hasWay_X7 : ∀ w ∈ wsX70, w ∈ wsX7_hasWay := in_at [57, 58, 59, 60, 61, 62, 63, 64, 65, 66, 67] (by decide +kernel)
set_option maxHeartbeats 4000000 in
set_option maxRecDepth 100000 in
theorem ctX7_hasWay (G : gT) (F : Nat) (a : Nat → Nat → Nat) (m_hasSnapshot : Int32) (v_o1 : MZ) (v_o7 : WY) (o : (Int32 × WY)) (hm : mX7_hasWay F v_o1 v_o7 = some o) : CT G yX7_hasWay wsX7_hasWay rmX7_hasWay [.ref (a 0 0)] (wX7 G a m_hasSnapshot ++ wX3 G (a 1) v_o1 ++ wX6 G (a 7) v_o7) (fun v w => v = some (.int o.1) ∧ w = wX7 G a m_hasSnapshot ++ wX3 G (a 1) v_o1 ++ wX6 G (a 7) o.2) := by
  refine CT_of (cc := cX7_hasWay) (maxL := 1) (ret := (some .boolean)) 0 (by decide +kernel) rfl rfl (cat_ok rfl) (fun X hX hR hN => ?_)
  have hX : Ok G X cX7_hasWay RX7 wsX7_hasWay 1 rmX7_hasWay := hX
  have hX7 : ∀ w ∈ wsX70, w ∈ wsX7_hasWay := lX7_hasWay_X7
  unfold mX7_hasWay at hm
  refine w_aload_n (pc := 0) hX dX7_hasWay_0 rfl rfl ?_
  refine gf_X7_fromExit (pc := 1) hX dX7_hasWay_1 hX7 (List.mem_of_getElem? (i := 1) rfl) 0 rfl rfl ?_
  refine w_aload_n (pc := 4) hX dX7_hasWay_4 rfl rfl ?_
  refine gf_X7_maze (pc := 5) hX dX7_hasWay_5 hX7 (List.mem_of_getElem? (i := 2) rfl) 0 rfl rfl ?_
  refine w_aload_n (pc := 8) hX dX7_hasWay_8 rfl rfl ?_
  refine gf_X7_maze (pc := 9) hX dX7_hasWay_9 hX7 (List.mem_of_getElem? (i := 2) rfl) 0 rfl rfl ?_
  obtain ⟨r1, hr1, hm⟩ := bnd hm
  refine w_callpi (pc := 12) hX [1, 2, 3, 4, 5] (runV (rest := [.ref (a 1 0), .ref (a 7 0)]) hX [1, 2, 3, 4, 5] (ctX3_exitCell G (a 1) v_o1 r1 hr1) dX7_hasWay_12 0 gX7_hasWay_X3_exitCell rfl hyX3_exitCell ⟨Nat.le_of_ble_eq_true rfl, Nat.le_of_ble_eq_true rfl⟩ 1 rfl rfl rfl rfl (Nat.le_of_ble_eq_true rfl) ⟨Nat.le_of_ble_eq_true rfl, Nat.le_of_ble_eq_true rfl⟩ rfl (by decide +kernel)) rfl ⟨rfl, rfl⟩ ?_
  obtain ⟨r2, hr2, hm⟩ := bnd hm
  refine w_calldv (pc := 15) (ws' := wX7 G a m_hasSnapshot ++ wX3 G (a 1) v_o1 ++ wX6 G (a 7) r2) (os := [none, some 5, some 6, some 7, some 8, some 9, some 0, some 1, some 2, some 3, some 4]) 11 hX [6, 7, 8, 9, 10, 1, 2, 3, 4, 5] (runV (rest := []) hX [6, 7, 8, 9, 10, 1, 2, 3, 4, 5] (ctX6_findFrom G F (a 7) (a 1) v_o7 v_o1 r1 r2 hr2) dX7_hasWay_15 2 gX7_hasWay_X6_findFrom rfl hyX6_findFrom ⟨Nat.le_of_ble_eq_true rfl, Nat.le_of_ble_eq_true rfl⟩ 6 rfl rfl rfl rfl (Nat.le_of_ble_eq_true rfl) ⟨Nat.le_of_ble_eq_true rfl, Nat.le_of_ble_eq_true rfl⟩ rfl (by decide +kernel)) rfl rfl rfl (by decide +kernel) rfl ⟨rfl, rfl⟩ ?_
  refine w_aload_n (pc := 18) hX dX7_hasWay_18 rfl rfl ?_
  refine gf_X7_fromExit (pc := 19) hX dX7_hasWay_19 hX7 (List.mem_of_getElem? (i := 1) rfl) 0 rfl rfl ?_
  refine w_aload_n (pc := 22) hX dX7_hasWay_22 rfl rfl ?_
  refine gf_X7_maze (pc := 23) hX dX7_hasWay_23 hX7 (List.mem_of_getElem? (i := 2) rfl) 0 rfl rfl ?_
  obtain ⟨r3, hr3, hm⟩ := bnd hm
  refine w_callpi (pc := 26) hX [1, 2, 3, 4, 5] (runV (rest := [.ref (a 7 0)]) hX [1, 2, 3, 4, 5] (ctX3_entryCell G (a 1) v_o1 r3 hr3) dX7_hasWay_26 0 gX7_hasWay_X3_entryCell rfl hyX3_entryCell ⟨Nat.le_of_ble_eq_true rfl, Nat.le_of_ble_eq_true rfl⟩ 1 rfl rfl rfl rfl (Nat.le_of_ble_eq_true rfl) ⟨Nat.le_of_ble_eq_true rfl, Nat.le_of_ble_eq_true rfl⟩ rfl (by decide +kernel)) rfl ⟨rfl, rfl⟩ ?_
  obtain ⟨r4, hr4, hm⟩ := bnd hm
  refine w_callpi (pc := 29) hX [6, 7, 8, 9, 10] (runV (rest := []) hX [6, 7, 8, 9, 10] (ctX6_reach G (a 7) r2 r3 r4 hr4) dX7_hasWay_29 1 gX7_hasWay_X6_reach rfl hyX6_reach ⟨Nat.le_of_ble_eq_true rfl, Nat.le_of_ble_eq_true rfl⟩ 6 rfl rfl rfl rfl (Nat.le_of_ble_eq_true rfl) ⟨Nat.le_of_ble_eq_true rfl, Nat.le_of_ble_eq_true rfl⟩ rfl (by decide +kernel)) rfl ⟨rfl, rfl⟩ ?_
  refine w_zret (pc := 32) hX hR dX7_hasWay_32 hm (fun hm => ?_)
  obtain rfl := som hm
  exact ⟨rfl, rfl⟩

theorem lX7_isOnWay_X7 : ∀ w ∈ wsX70, w ∈ wsX7_isOnWay := in_at [63, 64, 65, 66, 67, 68, 69, 70, 71, 72, 73] (by decide +kernel)
set_option maxHeartbeats 4000000 in
set_option maxRecDepth 100000 in
theorem ctX7_isOnWay (G : gT) (F : Nat) (a : Nat → Nat → Nat) (m_hasSnapshot : Int32) (v_o1 : MZ) (v_o6 : WY) (v_o7 : WY) (g1 : Int32) (o : (Int32 × WY × WY)) (hm : mX7_isOnWay F v_o1 v_o6 v_o7 g1 = some o) : CT G yX7_isOnWay wsX7_isOnWay rmX7_isOnWay [.ref (a 0 0), .int g1] (wX7 G a m_hasSnapshot ++ wX3 G (a 1) v_o1 ++ wX6 G (a 6) v_o6 ++ wX6 G (a 7) v_o7) (fun v w => v = some (.int o.1) ∧ w = wX7 G a m_hasSnapshot ++ wX3 G (a 1) v_o1 ++ wX6 G (a 6) o.2.1 ++ wX6 G (a 7) o.2.2) := by
  refine CT_of (cc := cX7_isOnWay) (maxL := 3) (ret := (some .boolean)) 1 (by decide +kernel) rfl rfl (cat_ok rfl) (fun X hX hR hN => ?_)
  have hX : Ok G X cX7_isOnWay RX7 wsX7_isOnWay 3 rmX7_isOnWay := hX
  have hX7 : ∀ w ∈ wsX70, w ∈ wsX7_isOnWay := lX7_isOnWay_X7
  unfold mX7_isOnWay at hm
  refine w_aload_n (pc := 0) hX dX7_isOnWay_0 rfl rfl ?_
  obtain ⟨r1, hr1, hm⟩ := bnd hm
  refine w_calldi (pc := 1) (ws' := wX7 G a m_hasSnapshot ++ wX3 G (a 1) v_o1 ++ wX6 G (a 6) v_o6 ++ wX6 G (a 7) r1.2) (os := [some 0, some 1, some 2, some 3, some 4, some 5, none, none, none, none, none, some 6, some 7, some 8, some 9, some 10]) 16 hX [0, 1, 2, 3, 4, 5, 11, 12, 13, 14, 15] (runV (rest := []) hX [0, 1, 2, 3, 4, 5, 11, 12, 13, 14, 15] (ctX7_hasWay G F a m_hasSnapshot v_o1 v_o7 r1 hr1) dX7_isOnWay_1 0 gX7_isOnWay_X7_hasWay rfl hyX7_hasWay ⟨Nat.le_of_ble_eq_true rfl, Nat.le_of_ble_eq_true rfl⟩ 0 rfl rfl rfl rfl (Nat.le_of_ble_eq_true rfl) ⟨Nat.le_of_ble_eq_true rfl, Nat.le_of_ble_eq_true rfl⟩ rfl (by decide +kernel)) rfl rfl rfl (by decide +kernel) rfl ⟨rfl, rfl⟩ ?_
  refine w_jn (T := fun x2 : Unit => WW G X 0 0 (wX7 G a m_hasSnapshot ++ wX3 G (a 1) v_o1 ++ wX6 G (a 6) v_o6 ++ wX6 G (a 7) r1.2) [none, none, none] 18 []) hm (fun x2 hm => ?_) (fun j3 hj3 hm => ?_)
  ·
    refine w_iconst (pc := 18) hX dX7_isOnWay_18 ic_0 ?_
    refine w_zret (pc := 19) hX hR dX7_isOnWay_19 hm (fun hm => ?_)
    obtain rfl := som hm
    exact ⟨rfl, rfl⟩
  ·
    refine w_if_eq (pc := 4) (tgt := 18) hX dX7_isOnWay_4 (by decide) hm (fun hm => ?_) (fun hm => ?_)
    ·
      exact w_lvs [false, false, false] (hj3 () hm)
    ·
      refine w_aload_n (pc := 7) hX dX7_isOnWay_7 rfl rfl ?_
      refine gf_X7_fromExit (pc := 8) hX dX7_isOnWay_8 hX7 (List.mem_of_getElem? (i := 1) rfl) 0 rfl rfl ?_
      refine w_iload_n (pc := 11) hX dX7_isOnWay_11 rfl rfl ?_
      obtain ⟨r4, hr4, hm⟩ := bnd hm
      refine w_callpi (pc := 12) hX [11, 12, 13, 14, 15] (runV (rest := []) hX [11, 12, 13, 14, 15] (ctX6_reach G (a 7) r1.2 g1 r4 hr4) dX7_isOnWay_12 1 gX7_isOnWay_X6_reach rfl hyX6_reach ⟨Nat.le_of_ble_eq_true rfl, Nat.le_of_ble_eq_true rfl⟩ 11 rfl rfl rfl rfl (Nat.le_of_ble_eq_true rfl) ⟨Nat.le_of_ble_eq_true rfl, Nat.le_of_ble_eq_true rfl⟩ rfl (by decide +kernel)) rfl ⟨rfl, rfl⟩ ?_
      refine w_if_ne (pc := 15) (tgt := 20) hX dX7_isOnWay_15 (by decide) hm (fun hm => ?_) (fun hm => ?_)
      ·
        refine w_aload_n (pc := 20) hX dX7_isOnWay_20 rfl rfl ?_
        refine gf_X7_fromEntry (pc := 21) hX dX7_isOnWay_21 hX7 (List.mem_of_getElem? (i := 2) rfl) 0 rfl rfl ?_
        refine w_aload_n (pc := 24) hX dX7_isOnWay_24 rfl rfl ?_
        refine gf_X7_maze (pc := 25) hX dX7_isOnWay_25 hX7 (List.mem_of_getElem? (i := 3) rfl) 0 rfl rfl ?_
        refine w_aload_n (pc := 28) hX dX7_isOnWay_28 rfl rfl ?_
        refine gf_X7_maze (pc := 29) hX dX7_isOnWay_29 hX7 (List.mem_of_getElem? (i := 3) rfl) 0 rfl rfl ?_
        obtain ⟨r5, hr5, hm⟩ := bnd hm
        refine w_callpi (pc := 32) hX [1, 2, 3, 4, 5] (runV (rest := [.ref (a 1 0), .ref (a 6 0)]) hX [1, 2, 3, 4, 5] (ctX3_entryCell G (a 1) v_o1 r5 hr5) dX7_isOnWay_32 0 gX7_isOnWay_X3_entryCell rfl hyX3_entryCell ⟨Nat.le_of_ble_eq_true rfl, Nat.le_of_ble_eq_true rfl⟩ 1 rfl rfl rfl rfl (Nat.le_of_ble_eq_true rfl) ⟨Nat.le_of_ble_eq_true rfl, Nat.le_of_ble_eq_true rfl⟩ rfl (by decide +kernel)) rfl ⟨rfl, rfl⟩ ?_
        obtain ⟨r6, hr6, hm⟩ := bnd hm
        refine w_calldv (pc := 35) (ws' := wX7 G a m_hasSnapshot ++ wX3 G (a 1) v_o1 ++ wX6 G (a 6) r6 ++ wX6 G (a 7) r1.2) (os := [none, some 5, some 6, some 7, some 8, some 9, some 0, some 1, some 2, some 3, some 4, none, none, none, none, none]) 16 hX [6, 7, 8, 9, 10, 1, 2, 3, 4, 5] (runV (rest := []) hX [6, 7, 8, 9, 10, 1, 2, 3, 4, 5] (ctX6_findFrom G F (a 6) (a 1) v_o6 v_o1 r5 r6 hr6) dX7_isOnWay_35 2 gX7_isOnWay_X6_findFrom rfl hyX6_findFrom ⟨Nat.le_of_ble_eq_true rfl, Nat.le_of_ble_eq_true rfl⟩ 6 rfl rfl rfl rfl (Nat.le_of_ble_eq_true rfl) ⟨Nat.le_of_ble_eq_true rfl, Nat.le_of_ble_eq_true rfl⟩ rfl (by decide +kernel)) rfl rfl rfl (by decide +kernel) rfl ⟨rfl, rfl⟩ ?_
        refine w_aload_n (pc := 38) hX dX7_isOnWay_38 rfl rfl ?_
        refine gf_X7_fromEntry (pc := 39) hX dX7_isOnWay_39 hX7 (List.mem_of_getElem? (i := 2) rfl) 0 rfl rfl ?_
        refine w_iload_n (pc := 42) hX dX7_isOnWay_42 rfl rfl ?_
        obtain ⟨r7, hr7, hm⟩ := bnd hm
        refine w_callpi (pc := 43) hX [6, 7, 8, 9, 10] (runV (rest := []) hX [6, 7, 8, 9, 10] (ctX6_lengthTo G (a 6) r6 g1 r7 hr7) dX7_isOnWay_43 1 gX7_isOnWay_X6_lengthTo rfl hyX6_lengthTo ⟨Nat.le_of_ble_eq_true rfl, Nat.le_of_ble_eq_true rfl⟩ 6 rfl rfl rfl rfl (Nat.le_of_ble_eq_true rfl) ⟨Nat.le_of_ble_eq_true rfl, Nat.le_of_ble_eq_true rfl⟩ rfl (by decide +kernel)) rfl ⟨rfl, rfl⟩ ?_
        refine w_aload_n (pc := 46) hX dX7_isOnWay_46 rfl rfl ?_
        refine gf_X7_fromExit (pc := 47) hX dX7_isOnWay_47 hX7 (List.mem_of_getElem? (i := 1) rfl) 0 rfl rfl ?_
        refine w_iload_n (pc := 50) hX dX7_isOnWay_50 rfl rfl ?_
        obtain ⟨r8, hr8, hm⟩ := bnd hm
        refine w_callpi (pc := 51) hX [11, 12, 13, 14, 15] (runV (rest := [.int r7]) hX [11, 12, 13, 14, 15] (ctX6_lengthTo G (a 7) r1.2 g1 r8 hr8) dX7_isOnWay_51 1 gX7_isOnWay_X6_lengthTo rfl hyX6_lengthTo ⟨Nat.le_of_ble_eq_true rfl, Nat.le_of_ble_eq_true rfl⟩ 11 rfl rfl rfl rfl (Nat.le_of_ble_eq_true rfl) ⟨Nat.le_of_ble_eq_true rfl, Nat.le_of_ble_eq_true rfl⟩ rfl (by decide +kernel)) rfl ⟨rfl, rfl⟩ ?_
        refine w_iadd (pc := 54) hX dX7_isOnWay_54 ?_
        refine w_istore_n (pc := 55) hX dX7_isOnWay_55 rfl (Nat.le_of_ble_eq_true rfl) ?_
        refine w_iload_n (pc := 56) hX dX7_isOnWay_56 rfl rfl ?_
        refine w_aload_n (pc := 57) hX dX7_isOnWay_57 rfl rfl ?_
        refine gf_X7_fromExit (pc := 58) hX dX7_isOnWay_58 hX7 (List.mem_of_getElem? (i := 1) rfl) 0 rfl rfl ?_
        refine w_aload_n (pc := 61) hX dX7_isOnWay_61 rfl rfl ?_
        refine gf_X7_maze (pc := 62) hX dX7_isOnWay_62 hX7 (List.mem_of_getElem? (i := 3) rfl) 0 rfl rfl ?_
        obtain ⟨r9, hr9, hm⟩ := bnd hm
        refine w_callpi (pc := 65) hX [1, 2, 3, 4, 5] (runV (rest := [.ref (a 7 0), .int (r7 + r8)]) hX [1, 2, 3, 4, 5] (ctX3_entryCell G (a 1) v_o1 r9 hr9) dX7_isOnWay_65 0 gX7_isOnWay_X3_entryCell rfl hyX3_entryCell ⟨Nat.le_of_ble_eq_true rfl, Nat.le_of_ble_eq_true rfl⟩ 1 rfl rfl rfl rfl (Nat.le_of_ble_eq_true rfl) ⟨Nat.le_of_ble_eq_true rfl, Nat.le_of_ble_eq_true rfl⟩ rfl (by decide +kernel)) rfl ⟨rfl, rfl⟩ ?_
        obtain ⟨r10, hr10, hm⟩ := bnd hm
        refine w_callpi (pc := 68) hX [11, 12, 13, 14, 15] (runV (rest := [.int (r7 + r8)]) hX [11, 12, 13, 14, 15] (ctX6_lengthTo G (a 7) r1.2 r9 r10 hr10) dX7_isOnWay_68 1 gX7_isOnWay_X6_lengthTo rfl hyX6_lengthTo ⟨Nat.le_of_ble_eq_true rfl, Nat.le_of_ble_eq_true rfl⟩ 11 rfl rfl rfl rfl (Nat.le_of_ble_eq_true rfl) ⟨Nat.le_of_ble_eq_true rfl, Nat.le_of_ble_eq_true rfl⟩ rfl (by decide +kernel)) rfl ⟨rfl, rfl⟩ ?_
        refine w_jn (T := fun x11 : Int32 => WW G X 0 0 (wX7 G a m_hasSnapshot ++ wX3 G (a 1) v_o1 ++ wX6 G (a 6) r6 ++ wX6 G (a 7) r1.2) [none, none, none] 79 [.int x11]) hm (fun x11 hm => ?_) (fun j12 hj12 hm => ?_)
        ·
          refine w_zret (pc := 79) hX hR dX7_isOnWay_79 hm (fun hm => ?_)
          obtain rfl := som hm
          exact ⟨rfl, rfl⟩
        ·
          refine w_icmp_ne (pc := 71) (tgt := 78) hX dX7_isOnWay_71 (by decide) hm (fun hm => ?_) (fun hm => ?_)
          ·
            refine w_iconst (pc := 78) hX dX7_isOnWay_78 ic_0 ?_
            exact w_lvs [false, false, false] (hj12 (0 : Int32) hm)
          ·
            refine w_iconst (pc := 74) hX dX7_isOnWay_74 ic_1 ?_
            refine w_goto (pc := 75) (tgt := 79) hX dX7_isOnWay_75 (by decide) ?_
            exact w_lvs [false, false, false] (hj12 (1 : Int32) hm)
      ·
        exact w_lvs [false, false, false] (hj3 () hm)
