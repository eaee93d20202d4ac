/-! WALKS, printed by wip/whole/gen.py -/
theorem lX8_farthest_X8 : ∀ w ∈ wsX80, w ∈ wsX8_farthest := in_at [28, 29, 30, 31, 32, 33, 34, 35, 36, 37, 38, 39, 40, 41, 42, 43, 44, 45, 46, 47, 48, 49, 50, 51] (by decide +kernel)
set_option maxHeartbeats 4000000 in
set_option maxRecDepth 100000 in
theorem ctX8_farthest (G : gT) (F : Nat) (a_t : Nat → Nat) (m_s : nF) (m_begun : nF) (m_kept : nF) (m_isKept : Int32) (m_past : nF) (m_states : Int32) (m_text : nF) (m_length : Int32) (m_far : nF) (m_queue : nF) (m_isOn : nF) (m_steps : nF) (m_wayCells : Int32) (m_turns : Int32) (m_visits : nF) (m_wasSo : nF) (m_bestAway : Int32) (m_bestMade : Int32) (m_bestFault : Int32) (m_isHere : nF) (m_place : Int32) (m_reason : Int32) (m_wide : Int32) (m_high : Int32) (g1 : Int32) (o : (Int32 × nF × nF)) (hm : mX8_farthest F m_s m_far m_queue g1 = some o) : CT G yX8_farthest wsX8_farthest rmX8_farthest [.ref (a_t 0), .int g1] (wX8 G a_t m_s m_begun m_kept m_isKept m_past m_states m_text m_length m_far m_queue m_isOn m_steps m_wayCells m_turns m_visits m_wasSo m_bestAway m_bestMade m_bestFault m_isHere m_place m_reason m_wide m_high) (fun v w => v = some (.int o.1) ∧ w = wX8 G a_t m_s m_begun m_kept m_isKept m_past m_states m_text m_length o.2.1 o.2.2 m_isOn m_steps m_wayCells m_turns m_visits m_wasSo m_bestAway m_bestMade m_bestFault m_isHere m_place m_reason m_wide m_high) := by
  refine CT_of (cc := cX8_farthest) (maxL := 7) (ret := (some .int)) 5 (by decide +kernel) rfl rfl (cat_ok rfl) (fun X hX hR hN => ?_)
  have hX : Ok G X cX8_farthest RX8 wsX8_farthest 7 rmX8_farthest := hX
  have hX8 : ∀ w ∈ wsX80, w ∈ wsX8_farthest := lX8_farthest_X8
  unfold mX8_farthest at hm
  refine w_iload_n (pc := 0) hX dX8_farthest_0 rfl rfl ?_
  refine w_iconst (pc := 1) hX dX8_farthest_1 ic_0 ?_
  refine w_iconst (pc := 2) hX dX8_farthest_2 ic_2 ?_
  obtain ⟨r1, hr1, hm⟩ := bnd hm
  refine w_callpi (pc := 3) hX [] (runS (rest := []) hX [] (ctX8_in G g1 (0 : Int32) (2 : Int32) r1 hr1) dX8_farthest_3 3 gX8_farthest_X8_in rfl hyX8_in.2 ⟨Nat.le_of_ble_eq_true rfl, Nat.le_of_ble_eq_true rfl⟩ rfl rfl (Nat.le_of_ble_eq_true rfl) ⟨Nat.le_of_ble_eq_true rfl, Nat.le_of_ble_eq_true rfl⟩ rfl (by decide +kernel)) rfl ⟨rfl, rfl⟩ ?_
  refine w_if_ne (pc := 6) (tgt := 11) hX dX8_farthest_6 (by decide) hm (fun hm => ?_) (fun hm => ?_)
  ·
    refine w_iconst (pc := 11) hX dX8_farthest_11 ic_m1 ?_
    refine w_istore_n (pc := 12) hX dX8_farthest_12 rfl (Nat.le_of_ble_eq_true rfl) ?_
    refine w_iconst (pc := 13) hX dX8_farthest_13 ic_m1 ?_
    refine w_istore_n (pc := 14) hX dX8_farthest_14 rfl (Nat.le_of_ble_eq_true rfl) ?_
    refine w_iconst (pc := 15) hX dX8_farthest_15 ic_0 ?_
    refine w_istore (pc := 16) hX dX8_farthest_16 (Nat.le_of_ble_eq_true rfl) ?_
    refine w_iconst (pc := 18) hX dX8_farthest_18 ic_0 ?_
    refine w_istore (pc := 19) hX dX8_farthest_19 (Nat.le_of_ble_eq_true rfl) ?_
    refine w_jn (T := fun x2 : (Int32 × Int32 × Int32 × nF × nF) => WW G X 0 0 (wX8 G a_t m_s m_begun m_kept m_isKept m_past m_states m_text m_length x2.2.2.2.1 x2.2.2.2.2 m_isOn m_steps m_wayCells m_turns m_visits m_wasSo m_bestAway m_bestMade m_bestFault m_isHere m_place m_reason m_wide m_high) [none, some (.int g1), some (.int x2.1), some (.int x2.2.1), some (.int x2.2.2.1), none, none] 90 []) hm (fun x2 hm => ?_) (fun j3 hj3 hm => ?_)
    ·
      unfold mX8_farthest_K90 at hm
      refine w_iload (pc := 90) hX dX8_farthest_90 rfl ?_
      refine w_jn (T := fun x4 : Int32 => WW G X 0 0 (wX8 G a_t m_s m_begun m_kept m_isKept m_past m_states m_text m_length x2.2.2.2.1 x2.2.2.2.2 m_isOn m_steps m_wayCells m_turns m_visits m_wasSo m_bestAway m_bestMade m_bestFault m_isHere m_place m_reason m_wide m_high) [none, none, none, none, none, none, none] 119 [.int x4]) hm (fun x4 hm => ?_) (fun j5 hj5 hm => ?_)
      ·
        obtain rfl := som hm
        exact w_iret (pc := 119) hX hR dX8_farthest_119 ⟨rfl, rfl⟩
      ·
        refine w_if_ne (pc := 92) (tgt := 100) hX dX8_farthest_92 (by decide) hm (fun hm => ?_) (fun hm => ?_)
        ·
          refine w_iload_n (pc := 100) hX dX8_farthest_100 rfl rfl ?_
          refine w_if_ne (pc := 101) (tgt := 108) hX dX8_farthest_101 (by decide) hm (fun hm => ?_) (fun hm => ?_)
          ·
            refine w_iload_n (pc := 108) hX dX8_farthest_108 rfl rfl ?_
            refine w_iconst (pc := 109) hX dX8_farthest_109 ic_1 ?_
            refine w_icmp_ne (pc := 110) (tgt := 117) hX dX8_farthest_110 (by decide) hm (fun hm => ?_) (fun hm => ?_)
            ·
              refine w_iload (pc := 117) hX dX8_farthest_117 rfl ?_
              exact w_lvs [false, false, false, false, false, false, false] (hj5 x2.2.2.1 hm)
            ·
              refine w_iload_n (pc := 113) hX dX8_farthest_113 rfl rfl ?_
              refine w_goto (pc := 114) (tgt := 119) hX dX8_farthest_114 (by decide) ?_
              exact w_lvs [false, false, false, false, false, false, false] (hj5 x2.2.1 hm)
          ·
            refine w_iload_n (pc := 104) hX dX8_farthest_104 rfl rfl ?_
            refine w_goto (pc := 105) (tgt := 119) hX dX8_farthest_105 (by decide) ?_
            exact w_lvs [false, false, false, false, false, false, false] (hj5 x2.1 hm)
        ·
          refine w_bipush (pc := 95) hX dX8_farthest_95 bp_m4 ?_
          refine w_goto (pc := 97) (tgt := 119) hX dX8_farthest_97 (by decide) ?_
          exact w_lvs [false, false, false, false, false, false, false] (hj5 (-4 : Int32) hm)
    ·
      refine w_lvs [true, true, true, true, true, true, false] ?_
      refine lpr_ind (T := fun x6 : (Int32 × Int32 × Int32 × Int32 × nF × nF) => WW G X 0 0 (wX8 G a_t m_s m_begun m_kept m_isKept m_past m_states m_text m_length x6.2.2.2.2.1 x6.2.2.2.2.2 m_isOn m_steps m_wayCells m_turns m_visits m_wasSo m_bestAway m_bestMade m_bestFault m_isHere m_place m_reason m_wide m_high) [some (.ref (a_t 0)), some (.int g1), some (.int x6.1), some (.int x6.2.1), some (.int x6.2.2.1), some (.int x6.2.2.2.1), none] 21 []) (fun self7 hself7 x6 hm => ?_) F ((-1 : Int32), (-1 : Int32), (0 : Int32), (0 : Int32), m_far, m_queue) hm
      unfold mX8_farthest_L21 at hm
      refine w_iload (pc := 21) hX dX8_farthest_21 rfl ?_
      refine w_aload_n (pc := 23) hX dX8_farthest_23 rfl rfl ?_
      obtain ⟨r8, hr8, hm⟩ := bnd hm
      refine w_callpi (pc := 24) hX [0, 1, 2, 3, 4, 5, 6, 7, 8, 9, 10, 11, 12] (runV (rest := [.int x6.2.2.2.1]) hX [0, 1, 2, 3, 4, 5, 6, 7, 8, 9, 10, 11, 12] (ctX8_cells G a_t m_s m_begun m_kept m_isKept m_past m_states m_text m_length x6.2.2.2.2.1 x6.2.2.2.2.2 m_isOn m_steps m_wayCells m_turns m_visits m_wasSo m_bestAway m_bestMade m_bestFault m_isHere m_place m_reason m_wide m_high r8 hr8) dX8_farthest_24 0 gX8_farthest_X8_cells rfl hyX8_cells ⟨Nat.le_of_ble_eq_true rfl, Nat.le_of_ble_eq_true rfl⟩ 0 rfl rfl rfl rfl (Nat.le_of_ble_eq_true rfl) ⟨Nat.le_of_ble_eq_true rfl, Nat.le_of_ble_eq_true rfl⟩ rfl (by decide +kernel)) rfl ⟨rfl, rfl⟩ ?_
      refine w_icmp_ge (pc := 27) (tgt := 90) hX dX8_farthest_27 (by decide) hm (fun hm => ?_) (fun hm => ?_)
      ·
        exact w_lvs [false, true, true, true, true, false, false] (hj3 (x6.1, x6.2.1, x6.2.2.1, x6.2.2.2.2.1, x6.2.2.2.2.2) hm)
      ·
        refine w_aload_n (pc := 30) hX dX8_farthest_30 rfl rfl ?_
        refine w_iload (pc := 31) hX dX8_farthest_31 rfl ?_
        obtain ⟨r9, hr9, hm⟩ := bnd hm
        refine w_calldv (pc := 33) (ws' := wX8 G a_t m_s m_begun m_kept m_isKept m_past m_states m_text m_length r9.1 r9.2 m_isOn m_steps m_wayCells m_turns m_visits m_wasSo m_bestAway m_bestMade m_bestFault m_isHere m_place m_reason m_wide m_high) (os := [some 0, some 1, some 2, some 3, some 4, some 5, some 6, some 7, some 8, some 9, some 10, some 11, some 12]) 13 hX [0, 1, 2, 3, 4, 5, 6, 7, 8, 9, 10, 11, 12] (runV (rest := []) hX [0, 1, 2, 3, 4, 5, 6, 7, 8, 9, 10, 11, 12] (ctX8_measures G F a_t m_s m_begun m_kept m_isKept m_past m_states m_text m_length x6.2.2.2.2.1 x6.2.2.2.2.2 m_isOn m_steps m_wayCells m_turns m_visits m_wasSo m_bestAway m_bestMade m_bestFault m_isHere m_place m_reason m_wide m_high x6.2.2.2.1 r9 hr9) dX8_farthest_33 1 gX8_farthest_X8_measures rfl hyX8_measures ⟨Nat.le_of_ble_eq_true rfl, Nat.le_of_ble_eq_true rfl⟩ 0 rfl rfl rfl rfl (Nat.le_of_ble_eq_true rfl) ⟨Nat.le_of_ble_eq_true rfl, Nat.le_of_ble_eq_true rfl⟩ rfl (by decide +kernel)) rfl rfl rfl (by decide +kernel) rfl ⟨rfl, rfl⟩ ?_
        refine w_iload (pc := 36) hX dX8_farthest_36 rfl ?_
        refine w_iconst (pc := 38) hX dX8_farthest_38 ic_1 ?_
        refine w_iadd (pc := 39) hX dX8_farthest_39 ?_
        refine w_istore (pc := 40) hX dX8_farthest_40 (Nat.le_of_ble_eq_true rfl) ?_
        refine w_jn (T := fun x10 : (Int32 × Int32 × Int32) => WW G X 0 0 (wX8 G a_t m_s m_begun m_kept m_isKept m_past m_states m_text m_length r9.1 r9.2 m_isOn m_steps m_wayCells m_turns m_visits m_wasSo m_bestAway m_bestMade m_bestFault m_isHere m_place m_reason m_wide m_high) [some (.ref (a_t 0)), some (.int g1), some (.int x10.1), some (.int x10.2.1), some (.int x10.2.2), some (.int x6.2.2.2.1), none] 84 []) hm (fun x10 hm => ?_) (fun j11 hj11 hm => ?_)
        ·
          unfold mX8_farthest_K84 at hm
          refine w_iinc (pc := 84) hX dX8_farthest_84 rfl (Nat.le_of_ble_eq_true rfl) ic_1 ?_
          refine w_goto (pc := 87) (tgt := 21) hX dX8_farthest_87 (by decide) ?_
          exact w_lvs [true, true, true, true, true, true, false] (hself7 (x10.1, x10.2.1, x10.2.2, x6.2.2.2.1 + (1 : Int32), r9.1, r9.2) hm)
        ·
          refine w_lvs [true, true, true, true, true, true, true] ?_
          refine lpr_ind (T := fun x12 : (Int32 × Int32 × Int32 × Int32) => WW G X 0 0 (wX8 G a_t m_s m_begun m_kept m_isKept m_past m_states m_text m_length r9.1 r9.2 m_isOn m_steps m_wayCells m_turns m_visits m_wasSo m_bestAway m_bestMade m_bestFault m_isHere m_place m_reason m_wide m_high) [some (.ref (a_t 0)), some (.int g1), some (.int x12.1), some (.int x12.2.1), some (.int x12.2.2.1), some (.int x6.2.2.2.1), some (.int x12.2.2.2)] 42 []) (fun self13 hself13 x12 hm => ?_) F (x6.1, x6.2.1, x6.2.2.1, x6.2.2.2.1 + (1 : Int32)) hm
          unfold mX8_farthest_L42 at hm
          refine w_iload (pc := 42) hX dX8_farthest_42 rfl ?_
          refine w_aload_n (pc := 44) hX dX8_farthest_44 rfl rfl ?_
          obtain ⟨r14, hr14, hm⟩ := bnd hm
          refine w_callpi (pc := 45) hX [0, 1, 2, 3, 4, 5, 6, 7, 8, 9, 10, 11, 12] (runV (rest := [.int x12.2.2.2]) hX [0, 1, 2, 3, 4, 5, 6, 7, 8, 9, 10, 11, 12] (ctX8_cells G a_t m_s m_begun m_kept m_isKept m_past m_states m_text m_length r9.1 r9.2 m_isOn m_steps m_wayCells m_turns m_visits m_wasSo m_bestAway m_bestMade m_bestFault m_isHere m_place m_reason m_wide m_high r14 hr14) dX8_farthest_45 0 gX8_farthest_X8_cells rfl hyX8_cells ⟨Nat.le_of_ble_eq_true rfl, Nat.le_of_ble_eq_true rfl⟩ 0 rfl rfl rfl rfl (Nat.le_of_ble_eq_true rfl) ⟨Nat.le_of_ble_eq_true rfl, Nat.le_of_ble_eq_true rfl⟩ rfl (by decide +kernel)) rfl ⟨rfl, rfl⟩ ?_
          refine w_icmp_ge (pc := 48) (tgt := 84) hX dX8_farthest_48 (by decide) hm (fun hm => ?_) (fun hm => ?_)
          ·
            exact w_lvs [true, true, true, true, true, true, false] (hj11 (x12.1, x12.2.1, x12.2.2.1) hm)
          ·
            refine w_aload_n (pc := 51) hX dX8_farthest_51 rfl rfl ?_
            refine gf_X8_far (pc := 52) hX dX8_farthest_52 hX8 (List.mem_of_getElem? (i := 1) rfl) 0 rfl rfl ?_
            refine w_iload (pc := 55) hX dX8_farthest_55 rfl ?_
            refine w_iald (pc := 57) hX dX8_farthest_57 6 rfl hm (fun hm => ?_)
            refine w_iload (pc := 58) hX dX8_farthest_58 rfl ?_
            refine w_jn (T := fun x15 : (Int32 × Int32 × Int32) => WW G X 0 0 (wX8 G a_t m_s m_begun m_kept m_isKept m_past m_states m_text m_length r9.1 r9.2 m_isOn m_steps m_wayCells m_turns m_visits m_wasSo m_bestAway m_bestMade m_bestFault m_isHere m_place m_reason m_wide m_high) [some (.ref (a_t 0)), some (.int g1), some (.int x15.1), some (.int x15.2.1), some (.int x15.2.2), some (.int x6.2.2.2.1), some (.int x12.2.2.2)] 78 []) hm (fun x15 hm => ?_) (fun j16 hj16 hm => ?_)
            ·
              refine w_iinc (pc := 78) hX dX8_farthest_78 rfl (Nat.le_of_ble_eq_true rfl) ic_1 ?_
              refine w_goto (pc := 81) (tgt := 42) hX dX8_farthest_81 (by decide) ?_
              exact w_lvs [true, true, true, true, true, true, true] (hself13 (x15.1, x15.2.1, x15.2.2, x12.2.2.2 + (1 : Int32)) hm)
            ·
              refine w_icmp_le (pc := 60) (tgt := 78) hX dX8_farthest_60 (by decide) hm (fun hm => ?_) (fun hm => ?_)
              ·
                exact w_lvs [true, true, true, true, true, true, true] (hj16 (x12.1, x12.2.1, x12.2.2.1) hm)
              ·
                refine w_iload (pc := 63) hX dX8_farthest_63 rfl ?_
                refine w_istore_n (pc := 65) hX dX8_farthest_65 rfl (Nat.le_of_ble_eq_true rfl) ?_
                refine w_iload (pc := 66) hX dX8_farthest_66 rfl ?_
                refine w_istore_n (pc := 68) hX dX8_farthest_68 rfl (Nat.le_of_ble_eq_true rfl) ?_
                refine w_aload_n (pc := 69) hX dX8_farthest_69 rfl rfl ?_
                refine gf_X8_far (pc := 70) hX dX8_farthest_70 hX8 (List.mem_of_getElem? (i := 1) rfl) 0 rfl rfl ?_
                refine w_iload (pc := 73) hX dX8_farthest_73 rfl ?_
                refine w_iald (pc := 75) hX dX8_farthest_75 6 rfl hm (fun hm => ?_)
                refine w_istore (pc := 76) hX dX8_farthest_76 (Nat.le_of_ble_eq_true rfl) ?_
                exact w_lvs [true, true, true, true, true, true, true] (hj16 (x6.2.2.2.1, x12.2.2.2, r9.1 x12.2.2.2.toNatClampNeg) hm)
  ·
    refine w_iconst (pc := 9) hX dX8_farthest_9 ic_m1 ?_
    obtain rfl := som hm
    exact w_iret (pc := 10) hX hR dX8_farthest_10 ⟨rfl, rfl⟩

theorem lX8_mayBeExit_X8 : ∀ w ∈ wsX80, w ∈ wsX8_mayBeExit := in_at [7, 8, 9, 10, 11, 12, 13, 14, 15, 16, 17, 18, 19, 20, 21, 22, 23, 24, 25, 26, 27, 28, 29, 30] (by decide +kernel)
set_option maxHeartbeats 4000000 in
set_option maxRecDepth 100000 in
theorem ctX8_mayBeExit (G : gT) (a_t : Nat → Nat) (m_s : nF) (m_begun : nF) (m_kept : nF) (m_isKept : Int32) (m_past : nF) (m_states : Int32) (m_text : nF) (m_length : Int32) (m_far : nF) (m_queue : nF) (m_isOn : nF) (m_steps : nF) (m_wayCells : Int32) (m_turns : Int32) (m_visits : nF) (m_wasSo : nF) (m_bestAway : Int32) (m_bestMade : Int32) (m_bestFault : Int32) (m_isHere : nF) (m_place : Int32) (m_reason : Int32) (m_wide : Int32) (m_high : Int32) (g1 : Int32) (g2 : Int32) (o : Int32) (hm : mX8_mayBeExit m_s g1 g2 = some o) : CT G yX8_mayBeExit wsX8_mayBeExit rmX8_mayBeExit [.ref (a_t 0), .int g1, .int g2] (wX8 G a_t m_s m_begun m_kept m_isKept m_past m_states m_text m_length m_far m_queue m_isOn m_steps m_wayCells m_turns m_visits m_wasSo m_bestAway m_bestMade m_bestFault m_isHere m_place m_reason m_wide m_high) (fun v w => v = some (.int o) ∧ w = wX8 G a_t m_s m_begun m_kept m_isKept m_past m_states m_text m_length m_far m_queue m_isOn m_steps m_wayCells m_turns m_visits m_wasSo m_bestAway m_bestMade m_bestFault m_isHere m_place m_reason m_wide m_high) := by
  refine CT_of (cc := cX8_mayBeExit) (maxL := 3) (ret := (some .boolean)) 0 (by decide +kernel) rfl rfl (cat_ok rfl) (fun X hX hR hN => ?_)
  have hX : Ok G X cX8_mayBeExit RX8 wsX8_mayBeExit 3 rmX8_mayBeExit := hX
  have hX8 : ∀ w ∈ wsX80, w ∈ wsX8_mayBeExit := lX8_mayBeExit_X8
  unfold mX8_mayBeExit at hm
  refine w_aload_n (pc := 0) hX dX8_mayBeExit_0 rfl rfl ?_
  refine w_iload_n (pc := 1) hX dX8_mayBeExit_1 rfl rfl ?_
  refine w_iload_n (pc := 2) hX dX8_mayBeExit_2 rfl rfl ?_
  obtain ⟨r1, hr1, hm⟩ := bnd hm
  refine w_callpi (pc := 3) hX [0, 1, 2, 3, 4, 5, 6, 7, 8, 9, 10, 11, 12] (runV (rest := []) hX [0, 1, 2, 3, 4, 5, 6, 7, 8, 9, 10, 11, 12] (ctX8_besides G a_t m_s m_begun m_kept m_isKept m_past m_states m_text m_length m_far m_queue m_isOn m_steps m_wayCells m_turns m_visits m_wasSo m_bestAway m_bestMade m_bestFault m_isHere m_place m_reason m_wide m_high g1 g2 r1 hr1) dX8_mayBeExit_3 2 gX8_mayBeExit_X8_besides rfl hyX8_besides ⟨Nat.le_of_ble_eq_true rfl, Nat.le_of_ble_eq_true rfl⟩ 0 rfl rfl rfl rfl (Nat.le_of_ble_eq_true rfl) ⟨Nat.le_of_ble_eq_true rfl, Nat.le_of_ble_eq_true rfl⟩ rfl (by decide +kernel)) rfl ⟨rfl, rfl⟩ ?_
  refine w_jn (T := fun x2 : Int32 => WW G X 0 0 (wX8 G a_t m_s m_begun m_kept m_isKept m_past m_states m_text m_length m_far m_queue m_isOn m_steps m_wayCells m_turns m_visits m_wasSo m_bestAway m_bestMade m_bestFault m_isHere m_place m_reason m_wide m_high) [none, none, none] 34 [.int x2]) hm (fun x2 hm => ?_) (fun j3 hj3 hm => ?_)
  ·
    refine w_zret (pc := 34) hX hR dX8_mayBeExit_34 hm (fun hm => ?_)
    obtain rfl := som hm
    exact ⟨rfl, rfl⟩
  ·
    refine w_jn (T := fun x4 : Unit => WW G X 0 0 (wX8 G a_t m_s m_begun m_kept m_isKept m_past m_states m_text m_length m_far m_queue m_isOn m_steps m_wayCells m_turns m_visits m_wasSo m_bestAway m_bestMade m_bestFault m_isHere m_place m_reason m_wide m_high) [none, none, none] 33 []) hm (fun x4 hm => ?_) (fun j5 hj5 hm => ?_)
    ·
      refine w_iconst (pc := 33) hX dX8_mayBeExit_33 ic_0 ?_
      exact w_lvs [false, false, false] (hj3 (0 : Int32) hm)
    ·
      refine w_if_ge (pc := 6) (tgt := 33) hX dX8_mayBeExit_6 (by decide) hm (fun hm => ?_) (fun hm => ?_)
      ·
        exact w_lvs [false, false, false] (hj5 () hm)
      ·
        refine w_aload_n (pc := 9) hX dX8_mayBeExit_9 rfl rfl ?_
        refine gf_X8_s (pc := 10) hX dX8_mayBeExit_10 hX8 (List.mem_of_getElem? (i := 1) rfl) 0 rfl rfl ?_
        refine w_iconst (pc := 13) hX dX8_mayBeExit_13 ic_2 ?_
        refine w_iald (pc := 14) hX dX8_mayBeExit_14 1 rfl hm (fun hm => ?_)
        refine w_iload_n (pc := 15) hX dX8_mayBeExit_15 rfl rfl ?_
        refine w_jn (T := fun x6 : Unit => WW G X 0 0 (wX8 G a_t m_s m_begun m_kept m_isKept m_past m_states m_text m_length m_far m_queue m_isOn m_steps m_wayCells m_turns m_visits m_wasSo m_bestAway m_bestMade m_bestFault m_isHere m_place m_reason m_wide m_high) [none, none, none] 29 []) hm (fun x6 hm => ?_) (fun j7 hj7 hm => ?_)
        ·
          refine w_iconst (pc := 29) hX dX8_mayBeExit_29 ic_1 ?_
          refine w_goto (pc := 30) (tgt := 34) hX dX8_mayBeExit_30 (by decide) ?_
          exact w_lvs [false, false, false] (hj3 (1 : Int32) hm)
        ·
          refine w_icmp_ne (pc := 16) (tgt := 29) hX dX8_mayBeExit_16 (by decide) hm (fun hm => ?_) (fun hm => ?_)
          ·
            exact w_lvs [false, false, false] (hj7 () hm)
          ·
            refine w_aload_n (pc := 19) hX dX8_mayBeExit_19 rfl rfl ?_
            refine gf_X8_s (pc := 20) hX dX8_mayBeExit_20 hX8 (List.mem_of_getElem? (i := 1) rfl) 0 rfl rfl ?_
            refine w_iconst (pc := 23) hX dX8_mayBeExit_23 ic_3 ?_
            refine w_iald (pc := 24) hX dX8_mayBeExit_24 1 rfl hm (fun hm => ?_)
            refine w_iload_n (pc := 25) hX dX8_mayBeExit_25 rfl rfl ?_
            refine w_icmp_eq (pc := 26) (tgt := 33) hX dX8_mayBeExit_26 (by decide) hm (fun hm => ?_) (fun hm => ?_)
            ·
              exact w_lvs [false, false, false] (hj5 () hm)
            ·
              exact w_lvs [false, false, false] (hj7 () hm)

theorem lX8_bestExit_X8 : ∀ w ∈ wsX80, w ∈ wsX8_bestExit := in_at [49, 50, 51, 52, 53, 54, 55, 56, 57, 58, 59, 60, 61, 62, 63, 64, 65, 66, 67, 68, 69, 70, 71, 72] (by decide +kernel)
set_option maxHeartbeats 4000000 in
set_option maxRecDepth 100000 in
theorem ctX8_bestExit (G : gT) (F : Nat) (a_t : Nat → Nat) (m_s : nF) (m_begun : nF) (m_kept : nF) (m_isKept : Int32) (m_past : nF) (m_states : Int32) (m_text : nF) (m_length : Int32) (m_far : nF) (m_queue : nF) (m_isOn : nF) (m_steps : nF) (m_wayCells : Int32) (m_turns : Int32) (m_visits : nF) (m_wasSo : nF) (m_bestAway : Int32) (m_bestMade : Int32) (m_bestFault : Int32) (m_isHere : nF) (m_place : Int32) (m_reason : Int32) (m_wide : Int32) (m_high : Int32) (g1 : Int32) (o : (Int32 × nF × nF × nF × nF × Int32 × Int32)) (hm : mX8_bestExit F m_s m_far m_queue m_isOn m_steps m_wayCells m_turns g1 = some o) : CT G yX8_bestExit wsX8_bestExit rmX8_bestExit [.ref (a_t 0), .int g1] (wX8 G a_t m_s m_begun m_kept m_isKept m_past m_states m_text m_length m_far m_queue m_isOn m_steps m_wayCells m_turns m_visits m_wasSo m_bestAway m_bestMade m_bestFault m_isHere m_place m_reason m_wide m_high) (fun v w => v = some (.int o.1) ∧ w = wX8 G a_t m_s m_begun m_kept m_isKept m_past m_states m_text m_length o.2.1 o.2.2.1 o.2.2.2.1 o.2.2.2.2.1 o.2.2.2.2.2.1 o.2.2.2.2.2.2 m_visits m_wasSo m_bestAway m_bestMade m_bestFault m_isHere m_place m_reason m_wide m_high) := by
  refine CT_of (cc := cX8_bestExit) (maxL := 9) (ret := (some .int)) 7 (by decide +kernel) rfl rfl (cat_ok rfl) (fun X hX hR hN => ?_)
  have hX : Ok G X cX8_bestExit RX8 wsX8_bestExit 9 rmX8_bestExit := hX
  have hX8 : ∀ w ∈ wsX80, w ∈ wsX8_bestExit := lX8_bestExit_X8
  unfold mX8_bestExit at hm
  refine w_iload_n (pc := 0) hX dX8_bestExit_0 rfl rfl ?_
  refine w_iconst (pc := 1) hX dX8_bestExit_1 ic_0 ?_
  refine w_iconst (pc := 2) hX dX8_bestExit_2 ic_2 ?_
  obtain ⟨r1, hr1, hm⟩ := bnd hm
  refine w_callpi (pc := 3) hX [] (runS (rest := []) hX [] (ctX8_in G g1 (0 : Int32) (2 : Int32) r1 hr1) dX8_bestExit_3 3 gX8_bestExit_X8_in rfl hyX8_in.2 ⟨Nat.le_of_ble_eq_true rfl, Nat.le_of_ble_eq_true rfl⟩ rfl rfl (Nat.le_of_ble_eq_true rfl) ⟨Nat.le_of_ble_eq_true rfl, Nat.le_of_ble_eq_true rfl⟩ rfl (by decide +kernel)) rfl ⟨rfl, rfl⟩ ?_
  refine w_if_ne (pc := 6) (tgt := 11) hX dX8_bestExit_6 (by decide) hm (fun hm => ?_) (fun hm => ?_)
  ·
    refine w_iconst (pc := 11) hX dX8_bestExit_11 ic_m1 ?_
    refine w_istore_n (pc := 12) hX dX8_bestExit_12 rfl (Nat.le_of_ble_eq_true rfl) ?_
    refine w_iconst (pc := 13) hX dX8_bestExit_13 ic_m1 ?_
    refine w_istore_n (pc := 14) hX dX8_bestExit_14 rfl (Nat.le_of_ble_eq_true rfl) ?_
    refine w_ldc (pc := 15) hX dX8_bestExit_15 (List.mem_of_getElem? (i := 1) rfl) ?_
    refine w_istore (pc := 17) hX dX8_bestExit_17 (Nat.le_of_ble_eq_true rfl) ?_
    refine w_iconst (pc := 19) hX dX8_bestExit_19 ic_0 ?_
    refine w_istore (pc := 20) hX dX8_bestExit_20 (Nat.le_of_ble_eq_true rfl) ?_
    refine w_jn (T := fun x2 : (Int32 × Int32 × Int32 × nF × nF × nF × nF × Int32 × Int32) => WW G X 0 0 (wX8 G a_t m_s m_begun m_kept m_isKept m_past m_states m_text m_length x2.2.2.2.1 x2.2.2.2.2.1 x2.2.2.2.2.2.1 x2.2.2.2.2.2.2.1 x2.2.2.2.2.2.2.2.1 x2.2.2.2.2.2.2.2.2 m_visits m_wasSo m_bestAway m_bestMade m_bestFault m_isHere m_place m_reason m_wide m_high) [none, some (.int g1), some (.int x2.1), some (.int x2.2.1), some (.int x2.2.2.1), none, none, none, none] 150 []) hm (fun x2 hm => ?_) (fun j3 hj3 hm => ?_)
    ·
      obtain ⟨x2_0, x2_1, x2_2, x2_3, x2_4, x2_5, x2_6, x2_7, x2_8⟩ := x2
      unfold mX8_bestExit_K150 at hm
      refine w_iload_n (pc := 150) hX dX8_bestExit_150 rfl rfl ?_
      refine w_jn (T := fun x4 : Int32 => WW G X 0 0 (wX8 G a_t m_s m_begun m_kept m_isKept m_past m_states m_text m_length x2_3 x2_4 x2_5 x2_6 x2_7 x2_8 m_visits m_wasSo m_bestAway m_bestMade m_bestFault m_isHere m_place m_reason m_wide m_high) [none, none, none, none, none, none, none, none, none] 178 [.int x4]) hm (fun x4 hm => ?_) (fun j5 hj5 hm => ?_)
      ·
        obtain rfl := som hm
        exact w_iret (pc := 178) hX hR dX8_bestExit_178 ⟨rfl, rfl⟩
      ·
        refine w_if_ge (pc := 151) (tgt := 159) hX dX8_bestExit_151 (by decide) hm (fun hm => ?_) (fun hm => ?_)
        ·
          refine w_iload_n (pc := 159) hX dX8_bestExit_159 rfl rfl ?_
          refine w_if_ne (pc := 160) (tgt := 167) hX dX8_bestExit_160 (by decide) hm (fun hm => ?_) (fun hm => ?_)
          ·
            refine w_iload_n (pc := 167) hX dX8_bestExit_167 rfl rfl ?_
            refine w_iconst (pc := 168) hX dX8_bestExit_168 ic_1 ?_
            refine w_icmp_ne (pc := 169) (tgt := 176) hX dX8_bestExit_169 (by decide) hm (fun hm => ?_) (fun hm => ?_)
            ·
              refine w_iload (pc := 176) hX dX8_bestExit_176 rfl ?_
              exact w_lvs [false, false, false, false, false, false, false, false, false] (hj5 x2_2 hm)
            ·
              refine w_iload_n (pc := 172) hX dX8_bestExit_172 rfl rfl ?_
              refine w_goto (pc := 173) (tgt := 178) hX dX8_bestExit_173 (by decide) ?_
              exact w_lvs [false, false, false, false, false, false, false, false, false] (hj5 x2_1 hm)
          ·
            refine w_iload_n (pc := 163) hX dX8_bestExit_163 rfl rfl ?_
            refine w_goto (pc := 164) (tgt := 178) hX dX8_bestExit_164 (by decide) ?_
            exact w_lvs [false, false, false, false, false, false, false, false, false] (hj5 x2_0 hm)
        ·
          refine w_bipush (pc := 154) hX dX8_bestExit_154 bp_m4 ?_
          refine w_goto (pc := 156) (tgt := 178) hX dX8_bestExit_156 (by decide) ?_
          exact w_lvs [false, false, false, false, false, false, false, false, false] (hj5 (-4 : Int32) hm)
    ·
      refine w_lvs [true, true, true, true, true, true, false, false, false] ?_
      refine lpr_ind (T := fun x6 : (Int32 × Int32 × Int32 × Int32 × nF × nF × nF × nF × Int32 × Int32) => WW G X 0 0 (wX8 G a_t m_s m_begun m_kept m_isKept m_past m_states m_text m_length x6.2.2.2.2.1 x6.2.2.2.2.2.1 x6.2.2.2.2.2.2.1 x6.2.2.2.2.2.2.2.1 x6.2.2.2.2.2.2.2.2.1 x6.2.2.2.2.2.2.2.2.2 m_visits m_wasSo m_bestAway m_bestMade m_bestFault m_isHere m_place m_reason m_wide m_high) [some (.ref (a_t 0)), some (.int g1), some (.int x6.1), some (.int x6.2.1), some (.int x6.2.2.1), some (.int x6.2.2.2.1), none, none, none] 22 []) (fun self7 hself7 x6 hm => ?_) F ((-1 : Int32), (-1 : Int32), (1000000 : Int32), (0 : Int32), m_far, m_queue, m_isOn, m_steps, m_wayCells, m_turns) hm
      unfold mX8_bestExit_L22 at hm
      obtain ⟨x6_0, x6_1, x6_2, x6_3, x6_4, x6_5, x6_6, x6_7, x6_8, x6_9⟩ := x6
      refine w_iload (pc := 22) hX dX8_bestExit_22 rfl ?_
      refine w_aload_n (pc := 24) hX dX8_bestExit_24 rfl rfl ?_
      obtain ⟨r8, hr8, hm⟩ := bnd hm
      refine w_callpi (pc := 25) hX [0, 1, 2, 3, 4, 5, 6, 7, 8, 9, 10, 11, 12] (runV (rest := [.int x6_3]) hX [0, 1, 2, 3, 4, 5, 6, 7, 8, 9, 10, 11, 12] (ctX8_cells G a_t m_s m_begun m_kept m_isKept m_past m_states m_text m_length x6_4 x6_5 x6_6 x6_7 x6_8 x6_9 m_visits m_wasSo m_bestAway m_bestMade m_bestFault m_isHere m_place m_reason m_wide m_high r8 hr8) dX8_bestExit_25 0 gX8_bestExit_X8_cells rfl hyX8_cells ⟨Nat.le_of_ble_eq_true rfl, Nat.le_of_ble_eq_true rfl⟩ 0 rfl rfl rfl rfl (Nat.le_of_ble_eq_true rfl) ⟨Nat.le_of_ble_eq_true rfl, Nat.le_of_ble_eq_true rfl⟩ rfl (by decide +kernel)) rfl ⟨rfl, rfl⟩ ?_
      refine w_icmp_ge (pc := 28) (tgt := 150) hX dX8_bestExit_28 (by decide) hm (fun hm => ?_) (fun hm => ?_)
      ·
        exact w_lvs [false, true, true, true, true, false, false, false, false] (hj3 (x6_0, x6_1, x6_2, x6_4, x6_5, x6_6, x6_7, x6_8, x6_9) hm)
      ·
        refine w_iconst (pc := 31) hX dX8_bestExit_31 ic_3 ?_
        refine w_istore (pc := 32) hX dX8_bestExit_32 (Nat.le_of_ble_eq_true rfl) ?_
        refine w_jn (T := fun x9 : (Int32 × Int32 × Int32 × nF × nF × nF × nF × Int32 × Int32) => WW G X 0 0 (wX8 G a_t m_s m_begun m_kept m_isKept m_past m_states m_text m_length x9.2.2.2.1 x9.2.2.2.2.1 x9.2.2.2.2.2.1 x9.2.2.2.2.2.2.1 x9.2.2.2.2.2.2.2.1 x9.2.2.2.2.2.2.2.2 m_visits m_wasSo m_bestAway m_bestMade m_bestFault m_isHere m_place m_reason m_wide m_high) [some (.ref (a_t 0)), some (.int g1), some (.int x9.1), some (.int x9.2.1), some (.int x9.2.2.1), some (.int x6_3), none, none, none] 144 []) hm (fun x9 hm => ?_) (fun j10 hj10 hm => ?_)
        ·
          obtain ⟨x9_0, x9_1, x9_2, x9_3, x9_4, x9_5, x9_6, x9_7, x9_8⟩ := x9
          unfold mX8_bestExit_K144 at hm
          refine w_iinc (pc := 144) hX dX8_bestExit_144 rfl (Nat.le_of_ble_eq_true rfl) ic_1 ?_
          refine w_goto (pc := 147) (tgt := 22) hX dX8_bestExit_147 (by decide) ?_
          exact w_lvs [true, true, true, true, true, true, false, false, false] (hself7 (x9_0, x9_1, x9_2, x6_3 + (1 : Int32), x9_3, x9_4, x9_5, x9_6, x9_7, x9_8) hm)
        ·
          refine w_lvs [true, true, true, true, true, true, true, false, false] ?_
          refine lpr_ind (T := fun x11 : (Int32 × Int32 × Int32 × Int32 × nF × nF × nF × nF × Int32 × Int32) => WW G X 0 0 (wX8 G a_t m_s m_begun m_kept m_isKept m_past m_states m_text m_length x11.2.2.2.2.1 x11.2.2.2.2.2.1 x11.2.2.2.2.2.2.1 x11.2.2.2.2.2.2.2.1 x11.2.2.2.2.2.2.2.2.1 x11.2.2.2.2.2.2.2.2.2 m_visits m_wasSo m_bestAway m_bestMade m_bestFault m_isHere m_place m_reason m_wide m_high) [some (.ref (a_t 0)), some (.int g1), some (.int x11.1), some (.int x11.2.1), some (.int x11.2.2.1), some (.int x6_3), some (.int x11.2.2.2.1), none, none] 34 []) (fun self12 hself12 x11 hm => ?_) F (x6_0, x6_1, x6_2, (3 : Int32), x6_4, x6_5, x6_6, x6_7, x6_8, x6_9) hm
          unfold mX8_bestExit_L34 at hm
          obtain ⟨x11_0, x11_1, x11_2, x11_3, x11_4, x11_5, x11_6, x11_7, x11_8, x11_9⟩ := x11
          refine w_iload (pc := 34) hX dX8_bestExit_34 rfl ?_
          refine w_if_lt (pc := 36) (tgt := 144) hX dX8_bestExit_36 (by decide) hm (fun hm => ?_) (fun hm => ?_)
          ·
            exact w_lvs [true, true, true, true, true, true, false, false, false] (hj10 (x11_0, x11_1, x11_2, x11_4, x11_5, x11_6, x11_7, x11_8, x11_9) hm)
          ·
            refine w_aload_n (pc := 39) hX dX8_bestExit_39 rfl rfl ?_
            refine w_iload (pc := 40) hX dX8_bestExit_40 rfl ?_
            refine w_iload (pc := 42) hX dX8_bestExit_42 rfl ?_
            obtain ⟨r13, hr13, hm⟩ := bnd hm
            refine w_callpi (pc := 44) hX [0, 1, 2, 3, 4, 5, 6, 7, 8, 9, 10, 11, 12] (runV (rest := []) hX [0, 1, 2, 3, 4, 5, 6, 7, 8, 9, 10, 11, 12] (ctX8_mayBeExit G a_t m_s m_begun m_kept m_isKept m_past m_states m_text m_length x11_4 x11_5 x11_6 x11_7 x11_8 x11_9 m_visits m_wasSo m_bestAway m_bestMade m_bestFault m_isHere m_place m_reason m_wide m_high x6_3 x11_3 r13 hr13) dX8_bestExit_44 2 gX8_bestExit_X8_mayBeExit rfl hyX8_mayBeExit ⟨Nat.le_of_ble_eq_true rfl, Nat.le_of_ble_eq_true rfl⟩ 0 rfl rfl rfl rfl (Nat.le_of_ble_eq_true rfl) ⟨Nat.le_of_ble_eq_true rfl, Nat.le_of_ble_eq_true rfl⟩ rfl (by decide +kernel)) rfl ⟨rfl, rfl⟩ ?_
            refine w_jn (T := fun x14 : (Int32 × Int32 × Int32 × nF × nF × nF × nF × Int32 × Int32) => WW G X 0 0 (wX8 G a_t m_s m_begun m_kept m_isKept m_past m_states m_text m_length x14.2.2.2.1 x14.2.2.2.2.1 x14.2.2.2.2.2.1 x14.2.2.2.2.2.2.1 x14.2.2.2.2.2.2.2.1 x14.2.2.2.2.2.2.2.2 m_visits m_wasSo m_bestAway m_bestMade m_bestFault m_isHere m_place m_reason m_wide m_high) [some (.ref (a_t 0)), some (.int g1), some (.int x14.1), some (.int x14.2.1), some (.int x14.2.2.1), some (.int x6_3), some (.int x11_3), none, none] 138 []) hm (fun x14 hm => ?_) (fun j15 hj15 hm => ?_)
            ·
              obtain ⟨x14_0, x14_1, x14_2, x14_3, x14_4, x14_5, x14_6, x14_7, x14_8⟩ := x14
              refine w_iinc (pc := 138) hX dX8_bestExit_138 rfl (Nat.le_of_ble_eq_true rfl) ic_m1 ?_
              refine w_goto (pc := 141) (tgt := 34) hX dX8_bestExit_141 (by decide) ?_
              exact w_lvs [true, true, true, true, true, true, true, false, false] (hself12 (x14_0, x14_1, x14_2, x11_3 + (-1 : Int32), x14_3, x14_4, x14_5, x14_6, x14_7, x14_8) hm)
            ·
              refine w_if_eq (pc := 47) (tgt := 138) hX dX8_bestExit_47 (by decide) hm (fun hm => ?_) (fun hm => ?_)
              ·
                exact w_lvs [true, true, true, true, true, true, true, false, false] (hj15 (x11_0, x11_1, x11_2, x11_4, x11_5, x11_6, x11_7, x11_8, x11_9) hm)
              ·
                refine w_aload_n (pc := 50) hX dX8_bestExit_50 rfl rfl ?_
                refine w_aload_n (pc := 51) hX dX8_bestExit_51 rfl rfl ?_
                refine gf_X8_s (pc := 52) hX dX8_bestExit_52 hX8 (List.mem_of_getElem? (i := 2) rfl) 0 rfl rfl ?_
                refine w_iconst (pc := 55) hX dX8_bestExit_55 ic_2 ?_
                refine w_iald (pc := 56) hX dX8_bestExit_56 1 rfl hm (fun hm => ?_)
                refine w_iload (pc := 57) hX dX8_bestExit_57 rfl ?_
                obtain ⟨⟨r16_0, r16_1, r16_2⟩, hr16, hm⟩ := bnd hm
                refine w_calldi (pc := 59) (ws' := wX8 G a_t m_s m_begun m_kept m_isKept m_past m_states m_text m_length r16_1 r16_2 x11_6 x11_7 x11_8 x11_9 m_visits m_wasSo m_bestAway m_bestMade m_bestFault m_isHere m_place m_reason m_wide m_high) (os := [some 0, some 1, some 2, some 3, some 4, some 5, some 6, some 7, some 8, some 9, some 10, some 11, some 12]) 13 hX [0, 1, 2, 3, 4, 5, 6, 7, 8, 9, 10, 11, 12] (runV (rest := []) hX [0, 1, 2, 3, 4, 5, 6, 7, 8, 9, 10, 11, 12] (ctX8_areJoined G F a_t m_s m_begun m_kept m_isKept m_past m_states m_text m_length x11_4 x11_5 x11_6 x11_7 x11_8 x11_9 m_visits m_wasSo m_bestAway m_bestMade m_bestFault m_isHere m_place m_reason m_wide m_high (m_s (2 : Int32).toNatClampNeg) x6_3 (r16_0, r16_1, r16_2) hr16) dX8_bestExit_59 2 gX8_bestExit_X8_areJoined rfl hyX8_areJoined ⟨Nat.le_of_ble_eq_true rfl, Nat.le_of_ble_eq_true rfl⟩ 0 rfl rfl rfl rfl (Nat.le_of_ble_eq_true rfl) ⟨Nat.le_of_ble_eq_true rfl, Nat.le_of_ble_eq_true rfl⟩ rfl (by decide +kernel)) rfl rfl rfl (by decide +kernel) rfl ⟨rfl, rfl⟩ ?_
                refine w_if_eq (pc := 62) (tgt := 138) hX dX8_bestExit_62 (by decide) hm (fun hm => ?_) (fun hm => ?_)
                ·
                  exact w_lvs [true, true, true, true, true, true, true, false, false] (hj15 (x11_0, x11_1, x11_2, r16_1, r16_2, x11_6, x11_7, x11_8, x11_9) hm)
                ·
                  refine w_aload_n (pc := 65) hX dX8_bestExit_65 rfl rfl ?_
                  refine w_iload (pc := 66) hX dX8_bestExit_66 rfl ?_
                  obtain ⟨⟨r17_0, r17_1, r17_2, r17_3, r17_4, r17_5, r17_6⟩, hr17, hm⟩ := bnd hm
                  refine w_calldi (pc := 68) (ws' := wX8 G a_t m_s m_begun m_kept m_isKept m_past m_states m_text m_length r17_1 r17_2 r17_3 r17_4 r17_5 r17_6 m_visits m_wasSo m_bestAway m_bestMade m_bestFault m_isHere m_place m_reason m_wide m_high) (os := [some 0, some 1, some 2, some 3, some 4, some 5, some 6, some 7, some 8, some 9, some 10, some 11, some 12]) 13 hX [0, 1, 2, 3, 4, 5, 6, 7, 8, 9, 10, 11, 12] (runV (rest := []) hX [0, 1, 2, 3, 4, 5, 6, 7, 8, 9, 10, 11, 12] (ctX8_faultTo G F a_t m_s m_begun m_kept m_isKept m_past m_states m_text m_length r16_1 r16_2 x11_6 x11_7 x11_8 x11_9 m_visits m_wasSo m_bestAway m_bestMade m_bestFault m_isHere m_place m_reason m_wide m_high x6_3 (r17_0, r17_1, r17_2, r17_3, r17_4, r17_5, r17_6) hr17) dX8_bestExit_68 1 gX8_bestExit_X8_faultTo rfl hyX8_faultTo ⟨Nat.le_of_ble_eq_true rfl, Nat.le_of_ble_eq_true rfl⟩ 0 rfl rfl rfl rfl (Nat.le_of_ble_eq_true rfl) ⟨Nat.le_of_ble_eq_true rfl, Nat.le_of_ble_eq_true rfl⟩ rfl (by decide +kernel)) rfl rfl rfl (by decide +kernel) rfl ⟨rfl, rfl⟩ ?_
                  refine w_istore (pc := 71) hX dX8_bestExit_71 (Nat.le_of_ble_eq_true rfl) ?_
                  refine w_iload (pc := 73) hX dX8_bestExit_73 rfl ?_
                  refine w_iload (pc := 75) hX dX8_bestExit_75 rfl ?_
                  refine w_jn (T := fun x18 : Int32 => WW G X 0 0 (wX8 G a_t m_s m_begun m_kept m_isKept m_past m_states m_text m_length r17_1 r17_2 r17_3 r17_4 r17_5 r17_6 m_visits m_wasSo m_bestAway m_bestMade m_bestFault m_isHere m_place m_reason m_wide m_high) [some (.ref (a_t 0)), some (.int g1), some (.int x11_0), some (.int x11_1), some (.int x11_2), some (.int x6_3), some (.int x11_3), some (.int r17_0), none] 98 [.int x18]) hm (fun x18 hm => ?_) (fun j19 hj19 hm => ?_)
                  ·
                    refine w_istore (pc := 98) hX dX8_bestExit_98 (Nat.le_of_ble_eq_true rfl) ?_
                    refine w_iload (pc := 100) hX dX8_bestExit_100 rfl ?_
                    refine w_jn (T := fun x20 : Int32 => WW G X 0 0 (wX8 G a_t m_s m_begun m_kept m_isKept m_past m_states m_text m_length r17_1 r17_2 r17_3 r17_4 r17_5 r17_6 m_visits m_wasSo m_bestAway m_bestMade m_bestFault m_isHere m_place m_reason m_wide m_high) [some (.ref (a_t 0)), some (.int g1), none, some (.int x11_1), some (.int x11_2), some (.int x6_3), some (.int x11_3), some (.int r17_0), some (.int x18)] 111 [.int x20]) hm (fun x20 hm => ?_) (fun j21 hj21 hm => ?_)
                    ·
                      refine w_istore_n (pc := 111) hX dX8_bestExit_111 rfl (Nat.le_of_ble_eq_true rfl) ?_
                      refine w_iload (pc := 112) hX dX8_bestExit_112 rfl ?_
                      refine w_jn (T := fun x22 : Int32 => WW G X 0 0 (wX8 G a_t m_s m_begun m_kept m_isKept m_past m_states m_text m_length r17_1 r17_2 r17_3 r17_4 r17_5 r17_6 m_visits m_wasSo m_bestAway m_bestMade m_bestFault m_isHere m_place m_reason m_wide m_high) [some (.ref (a_t 0)), some (.int g1), some (.int x20), none, some (.int x11_2), some (.int x6_3), some (.int x11_3), some (.int r17_0), some (.int x18)] 123 [.int x22]) hm (fun x22 hm => ?_) (fun j23 hj23 hm => ?_)
                      ·
                        refine w_istore_n (pc := 123) hX dX8_bestExit_123 rfl (Nat.le_of_ble_eq_true rfl) ?_
                        refine w_iload (pc := 124) hX dX8_bestExit_124 rfl ?_
                        refine w_jn (T := fun x24 : Int32 => WW G X 0 0 (wX8 G a_t m_s m_begun m_kept m_isKept m_past m_states m_text m_length r17_1 r17_2 r17_3 r17_4 r17_5 r17_6 m_visits m_wasSo m_bestAway m_bestMade m_bestFault m_isHere m_place m_reason m_wide m_high) [some (.ref (a_t 0)), some (.int g1), some (.int x20), some (.int x22), none, some (.int x6_3), some (.int x11_3), none, none] 136 [.int x24]) hm (fun x24 hm => ?_) (fun j25 hj25 hm => ?_)
                        ·
                          refine w_istore (pc := 136) hX dX8_bestExit_136 (Nat.le_of_ble_eq_true rfl) ?_
                          exact w_lvs [true, true, true, true, true, true, true, false, false] (hj15 (x20, x22, x24, r17_1, r17_2, r17_3, r17_4, r17_5, r17_6) hm)
                        ·
                          refine w_if_eq (pc := 126) (tgt := 134) hX dX8_bestExit_126 (by decide) hm (fun hm => ?_) (fun hm => ?_)
                          ·
                            refine w_iload (pc := 134) hX dX8_bestExit_134 rfl ?_
                            exact w_lvs [true, true, true, true, false, true, true, false, false] (hj25 x11_2 hm)
                          ·
                            refine w_iload (pc := 129) hX dX8_bestExit_129 rfl ?_
                            refine w_goto (pc := 131) (tgt := 136) hX dX8_bestExit_131 (by decide) ?_
                            exact w_lvs [true, true, true, true, false, true, true, false, false] (hj25 r17_0 hm)
                      ·
                        refine w_if_eq (pc := 114) (tgt := 122) hX dX8_bestExit_114 (by decide) hm (fun hm => ?_) (fun hm => ?_)
                        ·
                          refine w_iload_n (pc := 122) hX dX8_bestExit_122 rfl rfl ?_
                          exact w_lvs [true, true, true, false, true, true, true, true, true] (hj23 x11_1 hm)
                        ·
                          refine w_iload (pc := 117) hX dX8_bestExit_117 rfl ?_
                          refine w_goto (pc := 119) (tgt := 123) hX dX8_bestExit_119 (by decide) ?_
                          exact w_lvs [true, true, true, false, true, true, true, true, true] (hj23 x11_3 hm)
                    ·
                      refine w_if_eq (pc := 102) (tgt := 110) hX dX8_bestExit_102 (by decide) hm (fun hm => ?_) (fun hm => ?_)
                      ·
                        refine w_iload_n (pc := 110) hX dX8_bestExit_110 rfl rfl ?_
                        exact w_lvs [true, true, false, true, true, true, true, true, true] (hj21 x11_0 hm)
                      ·
                        refine w_iload (pc := 105) hX dX8_bestExit_105 rfl ?_
                        refine w_goto (pc := 107) (tgt := 111) hX dX8_bestExit_107 (by decide) ?_
                        exact w_lvs [true, true, false, true, true, true, true, true, true] (hj21 x6_3 hm)
                  ·
                    refine w_jn (T := fun x26 : Unit => WW G X 0 0 (wX8 G a_t m_s m_begun m_kept m_isKept m_past m_states m_text m_length r17_1 r17_2 r17_3 r17_4 r17_5 r17_6 m_visits m_wasSo m_bestAway m_bestMade m_bestFault m_isHere m_place m_reason m_wide m_high) [some (.ref (a_t 0)), some (.int g1), some (.int x11_0), some (.int x11_1), some (.int x11_2), some (.int x6_3), some (.int x11_3), some (.int r17_0), none] 93 []) hm (fun x26 hm => ?_) (fun j27 hj27 hm => ?_)
                    ·
                      refine w_iconst (pc := 93) hX dX8_bestExit_93 ic_1 ?_
                      refine w_goto (pc := 94) (tgt := 98) hX dX8_bestExit_94 (by decide) ?_
                      exact w_lvs [true, true, true, true, true, true, true, true, false] (hj19 (1 : Int32) hm)
                    ·
                      refine w_icmp_lt (pc := 77) (tgt := 93) hX dX8_bestExit_77 (by decide) hm (fun hm => ?_) (fun hm => ?_)
                      ·
                        exact w_lvs [true, true, true, true, true, true, true, true, false] (hj27 () hm)
                      ·
                        refine w_iload_n (pc := 80) hX dX8_bestExit_80 rfl rfl ?_
                        refine w_iload (pc := 81) hX dX8_bestExit_81 rfl ?_
                        refine w_jn (T := fun x28 : Unit => WW G X 0 0 (wX8 G a_t m_s m_begun m_kept m_isKept m_past m_states m_text m_length r17_1 r17_2 r17_3 r17_4 r17_5 r17_6 m_visits m_wasSo m_bestAway m_bestMade m_bestFault m_isHere m_place m_reason m_wide m_high) [some (.ref (a_t 0)), some (.int g1), some (.int x11_0), some (.int x11_1), some (.int x11_2), some (.int x6_3), some (.int x11_3), some (.int r17_0), none] 97 []) hm (fun x28 hm => ?_) (fun j29 hj29 hm => ?_)
                        ·
                          refine w_iconst (pc := 97) hX dX8_bestExit_97 ic_0 ?_
                          exact w_lvs [true, true, true, true, true, true, true, true, false] (hj19 (0 : Int32) hm)
                        ·
                          refine w_icmp_ne (pc := 83) (tgt := 97) hX dX8_bestExit_83 (by decide) hm (fun hm => ?_) (fun hm => ?_)
                          ·
                            exact w_lvs [true, true, true, true, true, true, true, true, false] (hj29 () hm)
                          ·
                            refine w_iload (pc := 86) hX dX8_bestExit_86 rfl ?_
                            refine w_iload (pc := 88) hX dX8_bestExit_88 rfl ?_
                            refine w_icmp_ne (pc := 90) (tgt := 97) hX dX8_bestExit_90 (by decide) hm (fun hm => ?_) (fun hm => ?_)
                            ·
                              exact w_lvs [true, true, true, true, true, true, true, true, false] (hj29 () hm)
                            ·
                              exact w_lvs [true, true, true, true, true, true, true, true, false] (hj27 () hm)
  ·
    refine w_iconst (pc := 9) hX dX8_bestExit_9 ic_m1 ?_
    obtain rfl := som hm
    exact w_iret (pc := 10) hX hR dX8_bestExit_10 ⟨rfl, rfl⟩

theorem lX8_keep_X8 : ∀ w ∈ wsX80, w ∈ wsX8_keep := in_at [13, 14, 15, 16, 17, 18, 19, 20, 21, 22, 23, 24, 25, 26, 27, 28, 29, 30, 31, 32, 33, 34, 35, 36] (by decide +kernel)
set_option maxHeartbeats 4000000 in
set_option maxRecDepth 100000 in
theorem ctX8_keep (G : gT) (F : Nat) (a_t : Nat → Nat) (m_s : nF) (m_begun : nF) (m_kept : nF) (m_isKept : Int32) (m_past : nF) (m_states : Int32) (m_text : nF) (m_length : Int32) (m_far : nF) (m_queue : nF) (m_isOn : nF) (m_steps : nF) (m_wayCells : Int32) (m_turns : Int32) (m_visits : nF) (m_wasSo : nF) (m_bestAway : Int32) (m_bestMade : Int32) (m_bestFault : Int32) (m_isHere : nF) (m_place : Int32) (m_reason : Int32) (m_wide : Int32) (m_high : Int32) (o : (Int32 × nF × Int32)) (hm : mX8_keep F m_s m_kept m_isKept = some o) : CT G yX8_keep wsX8_keep rmX8_keep [.ref (a_t 0)] (wX8 G a_t m_s m_begun m_kept m_isKept m_past m_states m_text m_length m_far m_queue m_isOn m_steps m_wayCells m_turns m_visits m_wasSo m_bestAway m_bestMade m_bestFault m_isHere m_place m_reason m_wide m_high) (fun v w => v = some (.int o.1) ∧ w = wX8 G a_t m_s m_begun o.2.1 o.2.2 m_past m_states m_text m_length m_far m_queue m_isOn m_steps m_wayCells m_turns m_visits m_wasSo m_bestAway m_bestMade m_bestFault m_isHere m_place m_reason m_wide m_high) := by
  refine CT_of (cc := cX8_keep) (maxL := 2) (ret := (some .int)) 1 (by decide +kernel) rfl rfl (cat_ok rfl) (fun X hX hR hN => ?_)
  have hX : Ok G X cX8_keep RX8 wsX8_keep 2 rmX8_keep := hX
  have hX8 : ∀ w ∈ wsX80, w ∈ wsX8_keep := lX8_keep_X8
  unfold mX8_keep at hm
  refine w_iconst (pc := 0) hX dX8_keep_0 ic_0 ?_
  refine w_istore_n (pc := 1) hX dX8_keep_1 rfl (Nat.le_of_ble_eq_true rfl) ?_
  refine w_jn (T := fun x1 : nF => WW G X 0 0 (wX8 G a_t m_s m_begun x1 m_isKept m_past m_states m_text m_length m_far m_queue m_isOn m_steps m_wayCells m_turns m_visits m_wasSo m_bestAway m_bestMade m_bestFault m_isHere m_place m_reason m_wide m_high) [some (.ref (a_t 0)), none] 26 []) hm (fun x1 hm => ?_) (fun j2 hj2 hm => ?_)
  ·
    unfold mX8_keep_K26 at hm
    refine w_aload_n (pc := 26) hX dX8_keep_26 rfl rfl ?_
    refine w_iconst (pc := 27) hX dX8_keep_27 ic_1 ?_
    refine pf_X8_isKept (pc := 28) hX dX8_keep_28 hX8 (List.mem_of_getElem? (i := 3) rfl) 0 rfl rfl hm (fun hm => ?_)
    refine w_aload_n (pc := 31) hX dX8_keep_31 rfl rfl ?_
    obtain ⟨r3, hr3, hm⟩ := bnd hm
    refine w_callpi (pc := 32) hX [0, 1, 2, 3, 4, 5, 6, 7, 8, 9, 10, 11, 12] (runV (rest := []) hX [0, 1, 2, 3, 4, 5, 6, 7, 8, 9, 10, 11, 12] (ctX8_passages G F a_t m_s m_begun x1 (1 : Int32) m_past m_states m_text m_length m_far m_queue m_isOn m_steps m_wayCells m_turns m_visits m_wasSo m_bestAway m_bestMade m_bestFault m_isHere m_place m_reason m_wide m_high r3 hr3) dX8_keep_32 0 gX8_keep_X8_passages rfl hyX8_passages ⟨Nat.le_of_ble_eq_true rfl, Nat.le_of_ble_eq_true rfl⟩ 0 rfl rfl rfl rfl (Nat.le_of_ble_eq_true rfl) ⟨Nat.le_of_ble_eq_true rfl, Nat.le_of_ble_eq_true rfl⟩ rfl (by decide +kernel)) rfl ⟨rfl, rfl⟩ ?_
    obtain rfl := som hm
    exact w_iret (pc := 35) hX hR dX8_keep_35 ⟨rfl, rfl⟩
  ·
    refine w_lvs [true, true] ?_
    refine lpr_ind (T := fun x4 : (Int32 × nF) => WW G X 0 0 (wX8 G a_t m_s m_begun x4.2 m_isKept m_past m_states m_text m_length m_far m_queue m_isOn m_steps m_wayCells m_turns m_visits m_wasSo m_bestAway m_bestMade m_bestFault m_isHere m_place m_reason m_wide m_high) [some (.ref (a_t 0)), some (.int x4.1)] 2 []) (fun self5 hself5 x4 hm => ?_) F ((0 : Int32), m_kept) hm
    unfold mX8_keep_L2 at hm
    refine w_iload_n (pc := 2) hX dX8_keep_2 rfl rfl ?_
    refine w_bipush (pc := 3) hX dX8_keep_3 bp_114 ?_
    refine w_icmp_ge (pc := 5) (tgt := 26) hX dX8_keep_5 (by decide) hm (fun hm => ?_) (fun hm => ?_)
    ·
      exact w_lvs [true, false] (hj2 x4.2 hm)
    ·
      refine w_aload_n (pc := 8) hX dX8_keep_8 rfl rfl ?_
      refine gf_X8_kept (pc := 9) hX dX8_keep_9 hX8 (List.mem_of_getElem? (i := 1) rfl) 0 rfl rfl ?_
      refine w_iload_n (pc := 12) hX dX8_keep_12 rfl rfl ?_
      refine w_aload_n (pc := 13) hX dX8_keep_13 rfl rfl ?_
      refine gf_X8_s (pc := 14) hX dX8_keep_14 hX8 (List.mem_of_getElem? (i := 2) rfl) 0 rfl rfl ?_
      refine w_iload_n (pc := 17) hX dX8_keep_17 rfl rfl ?_
      refine w_iald (pc := 18) hX dX8_keep_18 1 rfl hm (fun hm => ?_)
      refine w_iast (pc := 19) hX dX8_keep_19 3 rfl hm (fun hm => ?_)
      refine w_iinc (pc := 20) hX dX8_keep_20 rfl (Nat.le_of_ble_eq_true rfl) ic_1 ?_
      refine w_goto (pc := 23) (tgt := 2) hX dX8_keep_23 (by decide) ?_
      exact w_lvs [true, true] (hself5 (x4.1 + (1 : Int32), (upd x4.2 x4.1.toNatClampNeg (m_s x4.1.toNatClampNeg))) hm)

theorem lX8_restore_X8 : ∀ w ∈ wsX80, w ∈ wsX8_restore := in_at [24, 25, 26, 27, 28, 29, 30, 31, 32, 33, 34, 35, 36, 37, 38, 39, 40, 41, 42, 43, 44, 45, 46, 47] (by decide +kernel)
set_option maxHeartbeats 4000000 in
set_option maxRecDepth 100000 in
theorem ctX8_restore (G : gT) (F : Nat) (a_t : Nat → Nat) (m_s : nF) (m_begun : nF) (m_kept : nF) (m_isKept : Int32) (m_past : nF) (m_states : Int32) (m_text : nF) (m_length : Int32) (m_far : nF) (m_queue : nF) (m_isOn : nF) (m_steps : nF) (m_wayCells : Int32) (m_turns : Int32) (m_visits : nF) (m_wasSo : nF) (m_bestAway : Int32) (m_bestMade : Int32) (m_bestFault : Int32) (m_isHere : nF) (m_place : Int32) (m_reason : Int32) (m_wide : Int32) (m_high : Int32) (o : (Int32 × nF × nF × nF × Int32)) (hm : mX8_restore F m_s m_begun m_kept m_isKept m_past m_states = some o) : CT G yX8_restore wsX8_restore rmX8_restore [.ref (a_t 0)] (wX8 G a_t m_s m_begun m_kept m_isKept m_past m_states m_text m_length m_far m_queue m_isOn m_steps m_wayCells m_turns m_visits m_wasSo m_bestAway m_bestMade m_bestFault m_isHere m_place m_reason m_wide m_high) (fun v w => v = some (.int o.1) ∧ w = wX8 G a_t o.2.1 o.2.2.1 m_kept m_isKept o.2.2.2.1 o.2.2.2.2 m_text m_length m_far m_queue m_isOn m_steps m_wayCells m_turns m_visits m_wasSo m_bestAway m_bestMade m_bestFault m_isHere m_place m_reason m_wide m_high) := by
  refine CT_of (cc := cX8_restore) (maxL := 2) (ret := (some .int)) 1 (by decide +kernel) rfl rfl (cat_ok rfl) (fun X hX hR hN => ?_)
  have hX : Ok G X cX8_restore RX8 wsX8_restore 2 rmX8_restore := hX
  have hX8 : ∀ w ∈ wsX80, w ∈ wsX8_restore := lX8_restore_X8
  unfold mX8_restore at hm
  refine w_aload_n (pc := 0) hX dX8_restore_0 rfl rfl ?_
  obtain ⟨r1, hr1, hm⟩ := bnd hm
  refine w_calldv (pc := 1) (ws' := wX8 G a_t m_s r1 m_kept m_isKept m_past m_states m_text m_length m_far m_queue m_isOn m_steps m_wayCells m_turns m_visits m_wasSo m_bestAway m_bestMade m_bestFault m_isHere m_place m_reason m_wide m_high) (os := [some 0, some 1, some 2, some 3, some 4, some 5, some 6, some 7, some 8, some 9, some 10, some 11, some 12]) 13 hX [0, 1, 2, 3, 4, 5, 6, 7, 8, 9, 10, 11, 12] (runV (rest := []) hX [0, 1, 2, 3, 4, 5, 6, 7, 8, 9, 10, 11, 12] (ctX8_begins G F a_t m_s m_begun m_kept m_isKept m_past m_states m_text m_length m_far m_queue m_isOn m_steps m_wayCells m_turns m_visits m_wasSo m_bestAway m_bestMade m_bestFault m_isHere m_place m_reason m_wide m_high r1 hr1) dX8_restore_1 0 gX8_restore_X8_begins rfl hyX8_begins ⟨Nat.le_of_ble_eq_true rfl, Nat.le_of_ble_eq_true rfl⟩ 0 rfl rfl rfl rfl (Nat.le_of_ble_eq_true rfl) ⟨Nat.le_of_ble_eq_true rfl, Nat.le_of_ble_eq_true rfl⟩ rfl (by decide +kernel)) rfl rfl rfl (by decide +kernel) rfl ⟨rfl, rfl⟩ ?_
  refine w_aload_n (pc := 4) hX dX8_restore_4 rfl rfl ?_
  refine gf_X8_isKept (pc := 5) hX dX8_restore_5 hX8 (List.mem_of_getElem? (i := 1) rfl) 0 rfl rfl ?_
  refine w_if_ne (pc := 8) (tgt := 14) hX dX8_restore_8 (by decide) hm (fun hm => ?_) (fun hm => ?_)
  ·
    refine w_iconst (pc := 14) hX dX8_restore_14 ic_0 ?_
    refine w_istore_n (pc := 15) hX dX8_restore_15 rfl (Nat.le_of_ble_eq_true rfl) ?_
    refine w_jn (T := fun x2 : nF => WW G X 0 0 (wX8 G a_t x2 r1 m_kept m_isKept m_past m_states m_text m_length m_far m_queue m_isOn m_steps m_wayCells m_turns m_visits m_wasSo m_bestAway m_bestMade m_bestFault m_isHere m_place m_reason m_wide m_high) [some (.ref (a_t 0)), none] 40 []) hm (fun x2 hm => ?_) (fun j3 hj3 hm => ?_)
    ·
      unfold mX8_restore_K40 at hm
      refine w_aload_n (pc := 40) hX dX8_restore_40 rfl rfl ?_
      refine w_aload_n (pc := 41) hX dX8_restore_41 rfl rfl ?_
      obtain ⟨r4, hr4, hm⟩ := bnd hm
      refine w_callpi (pc := 42) hX [0, 1, 2, 3, 4, 5, 6, 7, 8, 9, 10, 11, 12] (runV (rest := [.ref (a_t 0)]) hX [0, 1, 2, 3, 4, 5, 6, 7, 8, 9, 10, 11, 12] (ctX8_passages G F a_t x2 r1 m_kept m_isKept m_past m_states m_text m_length m_far m_queue m_isOn m_steps m_wayCells m_turns m_visits m_wasSo m_bestAway m_bestMade m_bestFault m_isHere m_place m_reason m_wide m_high r4 hr4) dX8_restore_42 0 gX8_restore_X8_passages rfl hyX8_passages ⟨Nat.le_of_ble_eq_true rfl, Nat.le_of_ble_eq_true rfl⟩ 0 rfl rfl rfl rfl (Nat.le_of_ble_eq_true rfl) ⟨Nat.le_of_ble_eq_true rfl, Nat.le_of_ble_eq_true rfl⟩ rfl (by decide +kernel)) rfl ⟨rfl, rfl⟩ ?_
      obtain ⟨r5, hr5, hm⟩ := bnd hm
      refine w_calldi (pc := 45) (ws' := wX8 G a_t r5.2.1 r1 m_kept m_isKept r5.2.2.1 r5.2.2.2 m_text m_length m_far m_queue m_isOn m_steps m_wayCells m_turns m_visits m_wasSo m_bestAway m_bestMade m_bestFault m_isHere m_place m_reason m_wide m_high) (os := [some 0, some 1, some 2, some 3, some 4, some 5, some 6, some 7, some 8, some 9, some 10, some 11, some 12]) 13 hX [0, 1, 2, 3, 4, 5, 6, 7, 8, 9, 10, 11, 12] (runV (rest := []) hX [0, 1, 2, 3, 4, 5, 6, 7, 8, 9, 10, 11, 12] (ctX8_acted G F a_t x2 r1 m_kept m_isKept m_past m_states m_text m_length m_far m_queue m_isOn m_steps m_wayCells m_turns m_visits m_wasSo m_bestAway m_bestMade m_bestFault m_isHere m_place m_reason m_wide m_high r4 r5 hr5) dX8_restore_45 1 gX8_restore_X8_acted rfl hyX8_acted ⟨Nat.le_of_ble_eq_true rfl, Nat.le_of_ble_eq_true rfl⟩ 0 rfl rfl rfl rfl (Nat.le_of_ble_eq_true rfl) ⟨Nat.le_of_ble_eq_true rfl, Nat.le_of_ble_eq_true rfl⟩ rfl (by decide +kernel)) rfl rfl rfl (by decide +kernel) rfl ⟨rfl, rfl⟩ ?_
      obtain rfl := som hm
      exact w_iret (pc := 48) hX hR dX8_restore_48 ⟨rfl, rfl⟩
    ·
      refine w_lvs [true, true] ?_
      refine lpr_ind (T := fun x6 : (Int32 × nF) => WW G X 0 0 (wX8 G a_t x6.2 r1 m_kept m_isKept m_past m_states m_text m_length m_far m_queue m_isOn m_steps m_wayCells m_turns m_visits m_wasSo m_bestAway m_bestMade m_bestFault m_isHere m_place m_reason m_wide m_high) [some (.ref (a_t 0)), some (.int x6.1)] 16 []) (fun self7 hself7 x6 hm => ?_) F ((0 : Int32), m_s) hm
      unfold mX8_restore_L16 at hm
      refine w_iload_n (pc := 16) hX dX8_restore_16 rfl rfl ?_
      refine w_bipush (pc := 17) hX dX8_restore_17 bp_114 ?_
      refine w_icmp_ge (pc := 19) (tgt := 40) hX dX8_restore_19 (by decide) hm (fun hm => ?_) (fun hm => ?_)
      ·
        exact w_lvs [true, false] (hj3 x6.2 hm)
      ·
        refine w_aload_n (pc := 22) hX dX8_restore_22 rfl rfl ?_
        refine gf_X8_s (pc := 23) hX dX8_restore_23 hX8 (List.mem_of_getElem? (i := 2) rfl) 0 rfl rfl ?_
        refine w_iload_n (pc := 26) hX dX8_restore_26 rfl rfl ?_
        refine w_aload_n (pc := 27) hX dX8_restore_27 rfl rfl ?_
        refine gf_X8_kept (pc := 28) hX dX8_restore_28 hX8 (List.mem_of_getElem? (i := 3) rfl) 0 rfl rfl ?_
        refine w_iload_n (pc := 31) hX dX8_restore_31 rfl rfl ?_
        refine w_iald (pc := 32) hX dX8_restore_32 3 rfl hm (fun hm => ?_)
        refine w_iast (pc := 33) hX dX8_restore_33 1 rfl hm (fun hm => ?_)
        refine w_iinc (pc := 34) hX dX8_restore_34 rfl (Nat.le_of_ble_eq_true rfl) ic_1 ?_
        refine w_goto (pc := 37) (tgt := 16) hX dX8_restore_37 (by decide) ?_
        exact w_lvs [true, true] (hself7 (x6.1 + (1 : Int32), (upd x6.2 x6.1.toNatClampNeg (m_kept x6.1.toNatClampNeg))) hm)
  ·
    refine w_bipush (pc := 11) hX dX8_restore_11 bp_m2 ?_
    obtain rfl := som hm
    exact w_iret (pc := 13) hX hR dX8_restore_13 ⟨rfl, rfl⟩

theorem lX8_undo_X8 : ∀ w ∈ wsX80, w ∈ wsX8_undo := in_at [4, 5, 6, 7, 8, 9, 10, 11, 12, 13, 14, 15, 16, 17, 18, 19, 20, 21, 22, 23, 24, 25, 26, 27] (by decide +kernel)
set_option maxHeartbeats 4000000 in
set_option maxRecDepth 100000 in
theorem ctX8_undo (G : gT) (F : Nat) (a_t : Nat → Nat) (m_s : nF) (m_begun : nF) (m_kept : nF) (m_isKept : Int32) (m_past : nF) (m_states : Int32) (m_text : nF) (m_length : Int32) (m_far : nF) (m_queue : nF) (m_isOn : nF) (m_steps : nF) (m_wayCells : Int32) (m_turns : Int32) (m_visits : nF) (m_wasSo : nF) (m_bestAway : Int32) (m_bestMade : Int32) (m_bestFault : Int32) (m_isHere : nF) (m_place : Int32) (m_reason : Int32) (m_wide : Int32) (m_high : Int32) (o : (Int32 × nF × Int32)) (hm : mX8_undo F m_s m_past m_states = some o) : CT G yX8_undo wsX8_undo rmX8_undo [.ref (a_t 0)] (wX8 G a_t m_s m_begun m_kept m_isKept m_past m_states m_text m_length m_far m_queue m_isOn m_steps m_wayCells m_turns m_visits m_wasSo m_bestAway m_bestMade m_bestFault m_isHere m_place m_reason m_wide m_high) (fun v w => v = some (.int o.1) ∧ w = wX8 G a_t o.2.1 m_begun m_kept m_isKept m_past o.2.2 m_text m_length m_far m_queue m_isOn m_steps m_wayCells m_turns m_visits m_wasSo m_bestAway m_bestMade m_bestFault m_isHere m_place m_reason m_wide m_high) := by
  refine CT_of (cc := cX8_undo) (maxL := 2) (ret := (some .int)) 1 (by decide +kernel) rfl rfl (cat_ok rfl) (fun X hX hR hN => ?_)
  have hX : Ok G X cX8_undo RX8 wsX8_undo 2 rmX8_undo := hX
  have hX8 : ∀ w ∈ wsX80, w ∈ wsX8_undo := lX8_undo_X8
  unfold mX8_undo at hm
  refine w_aload_n (pc := 0) hX dX8_undo_0 rfl rfl ?_
  refine gf_X8_states (pc := 1) hX dX8_undo_1 hX8 (List.mem_of_getElem? (i := 1) rfl) 0 rfl rfl ?_
  refine w_if_ne (pc := 4) (tgt := 10) hX dX8_undo_4 (by decide) hm (fun hm => ?_) (fun hm => ?_)
  ·
    refine w_aload_n (pc := 10) hX dX8_undo_10 rfl rfl ?_
    refine w_dup (pc := 11) hX dX8_undo_11 rfl ?_
    refine gf_X8_states (pc := 12) hX dX8_undo_12 hX8 (List.mem_of_getElem? (i := 1) rfl) 0 rfl rfl ?_
    refine w_iconst (pc := 15) hX dX8_undo_15 ic_1 ?_
    refine w_isub (pc := 16) hX dX8_undo_16 ?_
    refine pf_X8_states (pc := 17) hX dX8_undo_17 hX8 (List.mem_of_getElem? (i := 1) rfl) 0 rfl rfl ?_
    refine w_iconst (pc := 20) hX dX8_undo_20 ic_0 ?_
    refine w_istore_n (pc := 21) hX dX8_undo_21 rfl (Nat.le_of_ble_eq_true rfl) ?_
    refine w_lvs [true, true] ?_
    refine lpr_ind (T := fun x1 : (Int32 × nF) => WW G X 0 0 (wX8 G a_t x1.2 m_begun m_kept m_isKept m_past (m_states - (1 : Int32)) m_text m_length m_far m_queue m_isOn m_steps m_wayCells m_turns m_visits m_wasSo m_bestAway m_bestMade m_bestFault m_isHere m_place m_reason m_wide m_high) [some (.ref (a_t 0)), some (.int x1.1)] 22 []) (fun self2 hself2 x1 hm => ?_) F ((0 : Int32), m_s) hm
    unfold mX8_undo_L22 at hm
    refine w_iload_n (pc := 22) hX dX8_undo_22 rfl rfl ?_
    refine w_bipush (pc := 23) hX dX8_undo_23 bp_114 ?_
    refine w_icmp_ge (pc := 25) (tgt := 54) hX dX8_undo_25 (by decide) hm (fun hm => ?_) (fun hm => ?_)
    ·
      refine w_aload_n (pc := 54) hX dX8_undo_54 rfl rfl ?_
      refine gf_X8_states (pc := 55) hX dX8_undo_55 hX8 (List.mem_of_getElem? (i := 1) rfl) 0 rfl rfl ?_
      obtain rfl := som hm
      exact w_iret (pc := 58) hX hR dX8_undo_58 ⟨rfl, rfl⟩
    ·
      refine w_aload_n (pc := 28) hX dX8_undo_28 rfl rfl ?_
      refine gf_X8_s (pc := 29) hX dX8_undo_29 hX8 (List.mem_of_getElem? (i := 2) rfl) 0 rfl rfl ?_
      refine w_iload_n (pc := 32) hX dX8_undo_32 rfl rfl ?_
      refine w_aload_n (pc := 33) hX dX8_undo_33 rfl rfl ?_
      refine gf_X8_past (pc := 34) hX dX8_undo_34 hX8 (List.mem_of_getElem? (i := 3) rfl) 0 rfl rfl ?_
      refine w_bipush (pc := 37) hX dX8_undo_37 bp_114 ?_
      refine w_aload_n (pc := 39) hX dX8_undo_39 rfl rfl ?_
      refine gf_X8_states (pc := 40) hX dX8_undo_40 hX8 (List.mem_of_getElem? (i := 1) rfl) 0 rfl rfl ?_
      refine w_imul (pc := 43) hX dX8_undo_43 ?_
      refine w_iload_n (pc := 44) hX dX8_undo_44 rfl rfl ?_
      refine w_iadd (pc := 45) hX dX8_undo_45 ?_
      refine w_iald (pc := 46) hX dX8_undo_46 4 rfl hm (fun hm => ?_)
      refine w_iast (pc := 47) hX dX8_undo_47 1 rfl hm (fun hm => ?_)
      refine w_iinc (pc := 48) hX dX8_undo_48 rfl (Nat.le_of_ble_eq_true rfl) ic_1 ?_
      refine w_goto (pc := 51) (tgt := 22) hX dX8_undo_51 (by decide) ?_
      exact w_lvs [true, true] (hself2 (x1.1 + (1 : Int32), (upd x1.2 x1.1.toNatClampNeg (m_past (((114 : Int32) * (m_states - (1 : Int32))) + x1.1).toNatClampNeg))) hm)
  ·
    refine w_bipush (pc := 7) hX dX8_undo_7 bp_m2 ?_
    obtain rfl := som hm
    exact w_iret (pc := 9) hX hR dX8_undo_9 ⟨rfl, rfl⟩

theorem lX8_type_X8 : ∀ w ∈ wsX80, w ∈ wsX8_type := in_at [7, 8, 9, 10, 11, 12, 13, 14, 15, 16, 17, 18, 19, 20, 21, 22, 23, 24, 25, 26, 27, 28, 29, 30] (by decide +kernel)
set_option maxHeartbeats 4000000 in
set_option maxRecDepth 100000 in
theorem ctX8_type (G : gT) (a_t : Nat → Nat) (m_s : nF) (m_begun : nF) (m_kept : nF) (m_isKept : Int32) (m_past : nF) (m_states : Int32) (m_text : nF) (m_length : Int32) (m_far : nF) (m_queue : nF) (m_isOn : nF) (m_steps : nF) (m_wayCells : Int32) (m_turns : Int32) (m_visits : nF) (m_wasSo : nF) (m_bestAway : Int32) (m_bestMade : Int32) (m_bestFault : Int32) (m_isHere : nF) (m_place : Int32) (m_reason : Int32) (m_wide : Int32) (m_high : Int32) (g1 : Int32) (o : (Int32 × nF × Int32)) (hm : mX8_type m_text m_length g1 = some o) : CT G yX8_type wsX8_type rmX8_type [.ref (a_t 0), .int g1] (wX8 G a_t m_s m_begun m_kept m_isKept m_past m_states m_text m_length m_far m_queue m_isOn m_steps m_wayCells m_turns m_visits m_wasSo m_bestAway m_bestMade m_bestFault m_isHere m_place m_reason m_wide m_high) (fun v w => v = some (.int o.1) ∧ w = wX8 G a_t m_s m_begun m_kept m_isKept m_past m_states o.2.1 o.2.2 m_far m_queue m_isOn m_steps m_wayCells m_turns m_visits m_wasSo m_bestAway m_bestMade m_bestFault m_isHere m_place m_reason m_wide m_high) := by
  refine CT_of (cc := cX8_type) (maxL := 2) (ret := (some .int)) 0 (by decide +kernel) rfl rfl (cat_ok rfl) (fun X hX hR hN => ?_)
  have hX : Ok G X cX8_type RX8 wsX8_type 2 rmX8_type := hX
  have hX8 : ∀ w ∈ wsX80, w ∈ wsX8_type := lX8_type_X8
  unfold mX8_type at hm
  refine w_iload_n (pc := 0) hX dX8_type_0 rfl rfl ?_
  refine w_bipush (pc := 1) hX dX8_type_1 bp_32 ?_
  refine w_bipush (pc := 3) hX dX8_type_3 bp_126 ?_
  obtain ⟨r1, hr1, hm⟩ := bnd hm
  refine w_callpi (pc := 5) hX [] (runS (rest := []) hX [] (ctX8_in G g1 (32 : Int32) (126 : Int32) r1 hr1) dX8_type_5 3 gX8_type_X8_in rfl hyX8_in.2 ⟨Nat.le_of_ble_eq_true rfl, Nat.le_of_ble_eq_true rfl⟩ rfl rfl (Nat.le_of_ble_eq_true rfl) ⟨Nat.le_of_ble_eq_true rfl, Nat.le_of_ble_eq_true rfl⟩ rfl (by decide +kernel)) rfl ⟨rfl, rfl⟩ ?_
  refine w_if_ne (pc := 8) (tgt := 13) hX dX8_type_8 (by decide) hm (fun hm => ?_) (fun hm => ?_)
  ·
    refine w_aload_n (pc := 13) hX dX8_type_13 rfl rfl ?_
    refine gf_X8_length (pc := 14) hX dX8_type_14 hX8 (List.mem_of_getElem? (i := 1) rfl) 0 rfl rfl ?_
    refine w_bipush (pc := 17) hX dX8_type_17 bp_60 ?_
    refine w_icmp_ne (pc := 19) (tgt := 25) hX dX8_type_19 (by decide) hm (fun hm => ?_) (fun hm => ?_)
    ·
      refine w_aload_n (pc := 25) hX dX8_type_25 rfl rfl ?_
      refine gf_X8_text (pc := 26) hX dX8_type_26 hX8 (List.mem_of_getElem? (i := 2) rfl) 0 rfl rfl ?_
      refine w_aload_n (pc := 29) hX dX8_type_29 rfl rfl ?_
      refine gf_X8_length (pc := 30) hX dX8_type_30 hX8 (List.mem_of_getElem? (i := 1) rfl) 0 rfl rfl ?_
      refine w_iload_n (pc := 33) hX dX8_type_33 rfl rfl ?_
      refine w_iast (pc := 34) hX dX8_type_34 5 rfl hm (fun hm => ?_)
      refine w_aload_n (pc := 35) hX dX8_type_35 rfl rfl ?_
      refine w_dup (pc := 36) hX dX8_type_36 rfl ?_
      refine gf_X8_length (pc := 37) hX dX8_type_37 hX8 (List.mem_of_getElem? (i := 1) rfl) 0 rfl rfl ?_
      refine w_iconst (pc := 40) hX dX8_type_40 ic_1 ?_
      refine w_iadd (pc := 41) hX dX8_type_41 ?_
      refine pf_X8_length (pc := 42) hX dX8_type_42 hX8 (List.mem_of_getElem? (i := 1) rfl) 0 rfl rfl ?_
      refine w_aload_n (pc := 45) hX dX8_type_45 rfl rfl ?_
      refine gf_X8_length (pc := 46) hX dX8_type_46 hX8 (List.mem_of_getElem? (i := 1) rfl) 0 rfl rfl ?_
      obtain rfl := som hm
      exact w_iret (pc := 49) hX hR dX8_type_49 ⟨rfl, rfl⟩
    ·
      refine w_bipush (pc := 22) hX dX8_type_22 bp_m3 ?_
      obtain rfl := som hm
      exact w_iret (pc := 24) hX hR dX8_type_24 ⟨rfl, rfl⟩
  ·
    refine w_iconst (pc := 11) hX dX8_type_11 ic_m1 ?_
    obtain rfl := som hm
    exact w_iret (pc := 12) hX hR dX8_type_12 ⟨rfl, rfl⟩

theorem lX8_clearText_X8 : ∀ w ∈ wsX80, w ∈ wsX8_clearText := in_at [2, 3, 4, 5, 6, 7, 8, 9, 10, 11, 12, 13, 14, 15, 16, 17, 18, 19, 20, 21, 22, 23, 24, 25] (by decide +kernel)
set_option maxHeartbeats 4000000 in
set_option maxRecDepth 100000 in
theorem ctX8_clearText (G : gT) (a_t : Nat → Nat) (m_s : nF) (m_begun : nF) (m_kept : nF) (m_isKept : Int32) (m_past : nF) (m_states : Int32) (m_text : nF) (m_length : Int32) (m_far : nF) (m_queue : nF) (m_isOn : nF) (m_steps : nF) (m_wayCells : Int32) (m_turns : Int32) (m_visits : nF) (m_wasSo : nF) (m_bestAway : Int32) (m_bestMade : Int32) (m_bestFault : Int32) (m_isHere : nF) (m_place : Int32) (m_reason : Int32) (m_wide : Int32) (m_high : Int32) (o : (Int32 × Int32)) (hm : mX8_clearText m_length = some o) : CT G yX8_clearText wsX8_clearText rmX8_clearText [.ref (a_t 0)] (wX8 G a_t m_s m_begun m_kept m_isKept m_past m_states m_text m_length m_far m_queue m_isOn m_steps m_wayCells m_turns m_visits m_wasSo m_bestAway m_bestMade m_bestFault m_isHere m_place m_reason m_wide m_high) (fun v w => v = some (.int o.1) ∧ w = wX8 G a_t m_s m_begun m_kept m_isKept m_past m_states m_text o.2 m_far m_queue m_isOn m_steps m_wayCells m_turns m_visits m_wasSo m_bestAway m_bestMade m_bestFault m_isHere m_place m_reason m_wide m_high) := by
  refine CT_of (cc := cX8_clearText) (maxL := 2) (ret := (some .int)) 1 (by decide +kernel) rfl rfl (cat_ok rfl) (fun X hX hR hN => ?_)
  have hX : Ok G X cX8_clearText RX8 wsX8_clearText 2 rmX8_clearText := hX
  have hX8 : ∀ w ∈ wsX80, w ∈ wsX8_clearText := lX8_clearText_X8
  unfold mX8_clearText at hm
  refine w_aload_n (pc := 0) hX dX8_clearText_0 rfl rfl ?_
  refine gf_X8_length (pc := 1) hX dX8_clearText_1 hX8 (List.mem_of_getElem? (i := 1) rfl) 0 rfl rfl ?_
  refine w_istore_n (pc := 4) hX dX8_clearText_4 rfl (Nat.le_of_ble_eq_true rfl) ?_
  refine w_aload_n (pc := 5) hX dX8_clearText_5 rfl rfl ?_
  refine w_iconst (pc := 6) hX dX8_clearText_6 ic_0 ?_
  refine pf_X8_length (pc := 7) hX dX8_clearText_7 hX8 (List.mem_of_getElem? (i := 1) rfl) 0 rfl rfl ?_
  refine w_iload_n (pc := 10) hX dX8_clearText_10 rfl rfl ?_
  obtain rfl := som hm
  exact w_iret (pc := 11) hX hR dX8_clearText_11 ⟨rfl, rfl⟩

theorem lX8_breaks_X8 : ∀ w ∈ wsX80, w ∈ wsX8_breaks := in_at [3, 4, 5, 6, 7, 8, 9, 10, 11, 12, 13, 14, 15, 16, 17, 18, 19, 20, 21, 22, 23, 24, 25, 26] (by decide +kernel)
set_option maxHeartbeats 4000000 in
set_option maxRecDepth 100000 in
theorem ctX8_breaks (G : gT) (a_t : Nat → Nat) (m_s : nF) (m_begun : nF) (m_kept : nF) (m_isKept : Int32) (m_past : nF) (m_states : Int32) (m_text : nF) (m_length : Int32) (m_far : nF) (m_queue : nF) (m_isOn : nF) (m_steps : nF) (m_wayCells : Int32) (m_turns : Int32) (m_visits : nF) (m_wasSo : nF) (m_bestAway : Int32) (m_bestMade : Int32) (m_bestFault : Int32) (m_isHere : nF) (m_place : Int32) (m_reason : Int32) (m_wide : Int32) (m_high : Int32) (g1 : Int32) (g2 : Int32) (o : (Int32 × Int32 × Int32)) (hm : mX8_breaks m_place m_reason g1 g2 = some o) : CT G yX8_breaks wsX8_breaks rmX8_breaks [.ref (a_t 0), .int g1, .int g2] (wX8 G a_t m_s m_begun m_kept m_isKept m_past m_states m_text m_length m_far m_queue m_isOn m_steps m_wayCells m_turns m_visits m_wasSo m_bestAway m_bestMade m_bestFault m_isHere m_place m_reason m_wide m_high) (fun v w => v = some (.int o.1) ∧ w = wX8 G a_t m_s m_begun m_kept m_isKept m_past m_states m_text m_length m_far m_queue m_isOn m_steps m_wayCells m_turns m_visits m_wasSo m_bestAway m_bestMade m_bestFault m_isHere o.2.1 o.2.2 m_wide m_high) := by
  refine CT_of (cc := cX8_breaks) (maxL := 3) (ret := (some .boolean)) 0 (by decide +kernel) rfl rfl (cat_ok rfl) (fun X hX hR hN => ?_)
  have hX : Ok G X cX8_breaks RX8 wsX8_breaks 3 rmX8_breaks := hX
  have hX8 : ∀ w ∈ wsX80, w ∈ wsX8_breaks := lX8_breaks_X8
  unfold mX8_breaks at hm
  refine w_aload_n (pc := 0) hX dX8_breaks_0 rfl rfl ?_
  refine w_iload_n (pc := 1) hX dX8_breaks_1 rfl rfl ?_
  refine pf_X8_place (pc := 2) hX dX8_breaks_2 hX8 (List.mem_of_getElem? (i := 1) rfl) 0 rfl rfl ?_
  refine w_aload_n (pc := 5) hX dX8_breaks_5 rfl rfl ?_
  refine w_iload_n (pc := 6) hX dX8_breaks_6 rfl rfl ?_
  refine pf_X8_reason (pc := 7) hX dX8_breaks_7 hX8 (List.mem_of_getElem? (i := 2) rfl) 0 rfl rfl ?_
  refine w_iconst (pc := 10) hX dX8_breaks_10 ic_0 ?_
  refine w_zret (pc := 11) hX hR dX8_breaks_11 hm (fun hm => ?_)
  obtain rfl := som hm
  exact ⟨rfl, rfl⟩
