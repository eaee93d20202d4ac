/-! WALKS, printed by wip/whole/gen.py -/
theorem lX8_triesFor_X8 : ∀ w ∈ wsX80, w ∈ wsX8_triesFor := in_at [49, 50, 51, 52, 53, 54, 55, 56, 57, 58, 59, 60, 61, 62, 63, 64, 65, 66, 67, 68, 69, 70, 71, 72] (by decide +kernel)
set_option maxHeartbeats 4000000 in
set_option maxRecDepth 100000 in
theorem ctX8_triesFor (G : gT) (F : Nat) (a_t : Nat → Nat) (m_s : nF) (m_begun : nF) (m_kept : nF) (m_isKept : Int32) (m_past : nF) (m_states : Int32) (m_text : nF) (m_length : Int32) (m_far : nF) (m_queue : nF) (m_isOn : nF) (m_steps : nF) (m_wayCells : Int32) (m_turns : Int32) (m_visits : nF) (m_wasSo : nF) (m_bestAway : Int32) (m_bestMade : Int32) (m_bestFault : Int32) (m_isHere : nF) (m_place : Int32) (m_reason : Int32) (m_wide : Int32) (m_high : Int32) (g1 : Int32) (o : (nF × nF × nF × nF × nF × Int32 × Int32 × Int32 × Int32 × Int32 × nF)) (hm : mX8_triesFor F m_s m_far m_queue m_isOn m_steps m_wayCells m_turns m_bestAway m_bestMade m_bestFault m_isHere g1 = some o) : CT G yX8_triesFor wsX8_triesFor rmX8_triesFor [.ref (a_t 0), .int g1] (wX8 G a_t m_s m_begun m_kept m_isKept m_past m_states m_text m_length m_far m_queue m_isOn m_steps m_wayCells m_turns m_visits m_wasSo m_bestAway m_bestMade m_bestFault m_isHere m_place m_reason m_wide m_high) (fun v w => v = none ∧ w = wX8 G a_t o.1 m_begun m_kept m_isKept m_past m_states m_text m_length o.2.1 o.2.2.1 o.2.2.2.1 o.2.2.2.2.1 o.2.2.2.2.2.1 o.2.2.2.2.2.2.1 m_visits m_wasSo o.2.2.2.2.2.2.2.1 o.2.2.2.2.2.2.2.2.1 o.2.2.2.2.2.2.2.2.2.1 o.2.2.2.2.2.2.2.2.2.2 m_place m_reason m_wide m_high) := by
  refine CT_of (cc := cX8_triesFor) (maxL := 5) (ret := none) 3 (by decide +kernel) rfl rfl (cat_ok rfl) (fun X hX hR hN => ?_)
  have hX : Ok G X cX8_triesFor RX8 wsX8_triesFor 5 rmX8_triesFor := hX
  have hX8 : ∀ w ∈ wsX80, w ∈ wsX8_triesFor := lX8_triesFor_X8
  unfold mX8_triesFor at hm
  refine w_aload_n (pc := 0) hX dX8_triesFor_0 rfl rfl ?_
  refine w_iload_n (pc := 1) hX dX8_triesFor_1 rfl rfl ?_
  refine w_iconst (pc := 2) hX dX8_triesFor_2 ic_2 ?_
  refine w_idiv (pc := 3) hX dX8_triesFor_3 hm (fun hm => ?_)
  obtain ⟨r1, hr1, hm⟩ := bnd hm
  refine w_calldv (pc := 4) (ws' := wX8 G a_t m_s m_begun m_kept m_isKept m_past m_states m_text m_length r1.1 r1.2 m_isOn m_steps m_wayCells m_turns m_visits m_wasSo m_bestAway m_bestMade m_bestFault m_isHere m_place m_reason m_wide m_high) (os := [some 0, some 1, some 2, some 3, some 4, some 5, some 6, some 7, some 8, some 9, some 10, some 11, some 12]) 13 hX [0, 1, 2, 3, 4, 5, 6, 7, 8, 9, 10, 11, 12] (runV (rest := []) hX [0, 1, 2, 3, 4, 5, 6, 7, 8, 9, 10, 11, 12] (ctX8_measures G F a_t m_s m_begun m_kept m_isKept m_past m_states m_text m_length m_far m_queue m_isOn m_steps m_wayCells m_turns m_visits m_wasSo m_bestAway m_bestMade m_bestFault m_isHere m_place m_reason m_wide m_high (g1 / (2 : Int32)) r1 hr1) dX8_triesFor_4 1 gX8_triesFor_X8_measures rfl hyX8_measures ⟨Nat.le_of_ble_eq_true rfl, Nat.le_of_ble_eq_true rfl⟩ 0 rfl rfl rfl rfl (Nat.le_of_ble_eq_true rfl) ⟨Nat.le_of_ble_eq_true rfl, Nat.le_of_ble_eq_true rfl⟩ rfl (by decide +kernel)) rfl rfl rfl (by decide +kernel) rfl ⟨rfl, rfl⟩ ?_
  refine w_iconst (pc := 7) hX dX8_triesFor_7 ic_0 ?_
  refine w_istore_n (pc := 8) hX dX8_triesFor_8 rfl (Nat.le_of_ble_eq_true rfl) ?_
  refine w_jn (T := fun x2 : nF => WW G X 0 0 (wX8 G a_t m_s m_begun m_kept m_isKept m_past m_states m_text m_length r1.1 r1.2 m_isOn m_steps m_wayCells m_turns m_visits m_wasSo m_bestAway m_bestMade m_bestFault x2 m_place m_reason m_wide m_high) [some (.ref (a_t 0)), some (.int g1), none, none, none] 43 []) hm (fun x2 hm => ?_) (fun j3 hj3 hm => ?_)
  ·
    unfold mX8_triesFor_K43 at hm
    refine w_iconst (pc := 43) hX dX8_triesFor_43 ic_0 ?_
    refine w_istore_n (pc := 44) hX dX8_triesFor_44 rfl (Nat.le_of_ble_eq_true rfl) ?_
    refine w_lvs [true, true, true, false, false] ?_
    refine lpr_ind (T := fun x4 : (Int32 × nF × nF × nF × nF × nF × Int32 × Int32 × Int32 × Int32 × Int32) => WW G X 0 0 (wX8 G a_t x4.2.1 m_begun m_kept m_isKept m_past m_states m_text m_length x4.2.2.1 x4.2.2.2.1 x4.2.2.2.2.1 x4.2.2.2.2.2.1 x4.2.2.2.2.2.2.1 x4.2.2.2.2.2.2.2.1 m_visits m_wasSo x4.2.2.2.2.2.2.2.2.1 x4.2.2.2.2.2.2.2.2.2.1 x4.2.2.2.2.2.2.2.2.2.2 x2 m_place m_reason m_wide m_high) [some (.ref (a_t 0)), some (.int g1), some (.int x4.1), none, none] 45 []) (fun self5 hself5 x4 hm => ?_) F ((0 : Int32), m_s, r1.1, r1.2, m_isOn, m_steps, m_wayCells, m_turns, m_bestAway, m_bestMade, m_bestFault) hm
    unfold mX8_triesFor_L45 at hm
    refine w_iload_n (pc := 45) hX dX8_triesFor_45 rfl rfl ?_
    refine w_iconst (pc := 46) hX dX8_triesFor_46 ic_2 ?_
    refine w_aload_n (pc := 47) hX dX8_triesFor_47 rfl rfl ?_
    obtain ⟨r6, hr6, hm⟩ := bnd hm
    refine w_callpi (pc := 48) hX [0, 1, 2, 3, 4, 5, 6, 7, 8, 9, 10, 11, 12] (runV (rest := [.int (2 : Int32), .int x4.1]) hX [0, 1, 2, 3, 4, 5, 6, 7, 8, 9, 10, 11, 12] (ctX8_cells G a_t x4.2.1 m_begun m_kept m_isKept m_past m_states m_text m_length x4.2.2.1 x4.2.2.2.1 x4.2.2.2.2.1 x4.2.2.2.2.2.1 x4.2.2.2.2.2.2.1 x4.2.2.2.2.2.2.2.1 m_visits m_wasSo x4.2.2.2.2.2.2.2.2.1 x4.2.2.2.2.2.2.2.2.2.1 x4.2.2.2.2.2.2.2.2.2.2 x2 m_place m_reason m_wide m_high r6 hr6) dX8_triesFor_48 0 gX8_triesFor_X8_cells rfl hyX8_cells ⟨Nat.le_of_ble_eq_true rfl, Nat.le_of_ble_eq_true rfl⟩ 0 rfl rfl rfl rfl (Nat.le_of_ble_eq_true rfl) ⟨Nat.le_of_ble_eq_true rfl, Nat.le_of_ble_eq_true rfl⟩ rfl (by decide +kernel)) rfl ⟨rfl, rfl⟩ ?_
    refine w_imul (pc := 51) hX dX8_triesFor_51 ?_
    refine w_icmp_ge (pc := 52) (tgt := 144) hX dX8_triesFor_52 (by decide) hm (fun hm => ?_) (fun hm => ?_)
    ·
      obtain rfl := som hm
      exact w_vret (pc := 144) hX hR dX8_triesFor_144 ⟨rfl, rfl⟩
    ·
      refine w_aload_n (pc := 55) hX dX8_triesFor_55 rfl rfl ?_
      refine w_iload_n (pc := 56) hX dX8_triesFor_56 rfl rfl ?_
      obtain ⟨r7, hr7, hm⟩ := bnd hm
      refine w_callpi (pc := 57) hX [0, 1, 2, 3, 4, 5, 6, 7, 8, 9, 10, 11, 12] (runV (rest := []) hX [0, 1, 2, 3, 4, 5, 6, 7, 8, 9, 10, 11, 12] (ctX8_second G a_t x4.2.1 m_begun m_kept m_isKept m_past m_states m_text m_length x4.2.2.1 x4.2.2.2.1 x4.2.2.2.2.1 x4.2.2.2.2.2.1 x4.2.2.2.2.2.2.1 x4.2.2.2.2.2.2.2.1 m_visits m_wasSo x4.2.2.2.2.2.2.2.2.1 x4.2.2.2.2.2.2.2.2.2.1 x4.2.2.2.2.2.2.2.2.2.2 x2 m_place m_reason m_wide m_high x4.1 r7 hr7) dX8_triesFor_57 1 gX8_triesFor_X8_second rfl hyX8_second ⟨Nat.le_of_ble_eq_true rfl, Nat.le_of_ble_eq_true rfl⟩ 0 rfl rfl rfl rfl (Nat.le_of_ble_eq_true rfl) ⟨Nat.le_of_ble_eq_true rfl, Nat.le_of_ble_eq_true rfl⟩ rfl (by decide +kernel)) rfl ⟨rfl, rfl⟩ ?_
      refine w_istore_n (pc := 60) hX dX8_triesFor_60 rfl (Nat.le_of_ble_eq_true rfl) ?_
      refine w_iload_n (pc := 61) hX dX8_triesFor_61 rfl rfl ?_
      refine w_iload_n (pc := 62) hX dX8_triesFor_62 rfl rfl ?_
      refine w_jn (T := fun x8 : (nF × nF × nF × nF × nF × Int32 × Int32 × Int32 × Int32 × Int32) => WW G X 0 0 (wX8 G a_t x8.1 m_begun m_kept m_isKept m_past m_states m_text m_length x8.2.1 x8.2.2.1 x8.2.2.2.1 x8.2.2.2.2.1 x8.2.2.2.2.2.1 x8.2.2.2.2.2.2.1 m_visits m_wasSo x8.2.2.2.2.2.2.2.1 x8.2.2.2.2.2.2.2.2.1 x8.2.2.2.2.2.2.2.2.2 x2 m_place m_reason m_wide m_high) [some (.ref (a_t 0)), some (.int g1), some (.int x4.1), none, none] 138 []) hm (fun x8 hm => ?_) (fun j9 hj9 hm => ?_)
      ·
        refine w_iinc (pc := 138) hX dX8_triesFor_138 rfl (Nat.le_of_ble_eq_true rfl) ic_1 ?_
        refine w_goto (pc := 141) (tgt := 45) hX dX8_triesFor_141 (by decide) ?_
        exact w_lvs [true, true, true, false, false] (hself5 (x4.1 + (1 : Int32), x8.1, x8.2.1, x8.2.2.1, x8.2.2.2.1, x8.2.2.2.2.1, x8.2.2.2.2.2.1, x8.2.2.2.2.2.2.1, x8.2.2.2.2.2.2.2.1, x8.2.2.2.2.2.2.2.2.1, x8.2.2.2.2.2.2.2.2.2) hm)
      ·
        refine w_icmp_eq (pc := 63) (tgt := 138) hX dX8_triesFor_63 (by decide) hm (fun hm => ?_) (fun hm => ?_)
        ·
          exact w_lvs [true, true, true, false, false] (hj9 (x4.2.1, x4.2.2.1, x4.2.2.2.1, x4.2.2.2.2.1, x4.2.2.2.2.2.1, x4.2.2.2.2.2.2.1, x4.2.2.2.2.2.2.2.1, x4.2.2.2.2.2.2.2.2.1, x4.2.2.2.2.2.2.2.2.2.1, x4.2.2.2.2.2.2.2.2.2.2) hm)
        ·
          refine w_iload_n (pc := 66) hX dX8_triesFor_66 rfl rfl ?_
          refine w_if_lt (pc := 67) (tgt := 138) hX dX8_triesFor_67 (by decide) hm (fun hm => ?_) (fun hm => ?_)
          ·
            exact w_lvs [true, true, true, false, false] (hj9 (x4.2.1, x4.2.2.1, x4.2.2.2.1, x4.2.2.2.2.1, x4.2.2.2.2.2.1, x4.2.2.2.2.2.2.1, x4.2.2.2.2.2.2.2.1, x4.2.2.2.2.2.2.2.2.1, x4.2.2.2.2.2.2.2.2.2.1, x4.2.2.2.2.2.2.2.2.2.2) hm)
          ·
            refine w_aload_n (pc := 70) hX dX8_triesFor_70 rfl rfl ?_
            refine gf_X8_isHere (pc := 71) hX dX8_triesFor_71 hX8 (List.mem_of_getElem? (i := 1) rfl) 0 rfl rfl ?_
            refine w_iload_n (pc := 74) hX dX8_triesFor_74 rfl rfl ?_
            refine w_iconst (pc := 75) hX dX8_triesFor_75 ic_2 ?_
            refine w_idiv (pc := 76) hX dX8_triesFor_76 hm (fun hm => ?_)
            refine w_zald (pc := 77) hX dX8_triesFor_77 12 rfl hm (fun hm => ?_)
            refine w_aload_n (pc := 78) hX dX8_triesFor_78 rfl rfl ?_
            refine gf_X8_isHere (pc := 79) hX dX8_triesFor_79 hX8 (List.mem_of_getElem? (i := 1) rfl) 0 rfl rfl ?_
            refine w_iload_n (pc := 82) hX dX8_triesFor_82 rfl rfl ?_
            refine w_zald (pc := 83) hX dX8_triesFor_83 12 rfl hm (fun hm => ?_)
            refine w_icmp_eq (pc := 84) (tgt := 138) hX dX8_triesFor_84 (by decide) hm (fun hm => ?_) (fun hm => ?_)
            ·
              exact w_lvs [true, true, true, false, false] (hj9 (x4.2.1, x4.2.2.1, x4.2.2.2.1, x4.2.2.2.2.1, x4.2.2.2.2.2.1, x4.2.2.2.2.2.2.1, x4.2.2.2.2.2.2.2.1, x4.2.2.2.2.2.2.2.2.1, x4.2.2.2.2.2.2.2.2.2.1, x4.2.2.2.2.2.2.2.2.2.2) hm)
            ·
              refine w_aload_n (pc := 87) hX dX8_triesFor_87 rfl rfl ?_
              refine gf_X8_s (pc := 88) hX dX8_triesFor_88 hX8 (List.mem_of_getElem? (i := 3) rfl) 0 rfl rfl ?_
              refine w_bipush (pc := 91) hX dX8_triesFor_91 bp_42 ?_
              refine w_iload_n (pc := 93) hX dX8_triesFor_93 rfl rfl ?_
              refine w_iadd (pc := 94) hX dX8_triesFor_94 ?_
              refine w_iconst (pc := 95) hX dX8_triesFor_95 ic_1 ?_
              refine w_iast (pc := 96) hX dX8_triesFor_96 1 rfl hm (fun hm => ?_)
              refine w_aload_n (pc := 97) hX dX8_triesFor_97 rfl rfl ?_
              obtain ⟨r10, hr10, hm⟩ := bnd hm
              refine w_calldi (pc := 98) (ws' := wX8 G a_t (upd x4.2.1 ((42 : Int32) + x4.1).toNatClampNeg (1 : Int32)) m_begun m_kept m_isKept m_past m_states m_text m_length r10.2.1 r10.2.2.1 r10.2.2.2.1 r10.2.2.2.2.1 r10.2.2.2.2.2.1 r10.2.2.2.2.2.2 m_visits m_wasSo x4.2.2.2.2.2.2.2.2.1 x4.2.2.2.2.2.2.2.2.2.1 x4.2.2.2.2.2.2.2.2.2.2 x2 m_place m_reason m_wide m_high) (os := [some 0, some 1, some 2, some 3, some 4, some 5, some 6, some 7, some 8, some 9, some 10, some 11, some 12]) 13 hX [0, 1, 2, 3, 4, 5, 6, 7, 8, 9, 10, 11, 12] (runV (rest := []) hX [0, 1, 2, 3, 4, 5, 6, 7, 8, 9, 10, 11, 12] (ctX8_wayFault G F a_t (upd x4.2.1 ((42 : Int32) + x4.1).toNatClampNeg (1 : Int32)) m_begun m_kept m_isKept m_past m_states m_text m_length x4.2.2.1 x4.2.2.2.1 x4.2.2.2.2.1 x4.2.2.2.2.2.1 x4.2.2.2.2.2.2.1 x4.2.2.2.2.2.2.2.1 m_visits m_wasSo x4.2.2.2.2.2.2.2.2.1 x4.2.2.2.2.2.2.2.2.2.1 x4.2.2.2.2.2.2.2.2.2.2 x2 m_place m_reason m_wide m_high r10 hr10) dX8_triesFor_98 0 gX8_triesFor_X8_wayFault rfl hyX8_wayFault ⟨Nat.le_of_ble_eq_true rfl, Nat.le_of_ble_eq_true rfl⟩ 0 rfl rfl rfl rfl (Nat.le_of_ble_eq_true rfl) ⟨Nat.le_of_ble_eq_true rfl, Nat.le_of_ble_eq_true rfl⟩ rfl (by decide +kernel)) rfl rfl rfl (by decide +kernel) rfl ⟨rfl, rfl⟩ ?_
              refine w_istore (pc := 101) hX dX8_triesFor_101 (Nat.le_of_ble_eq_true rfl) ?_
              refine w_aload_n (pc := 103) hX dX8_triesFor_103 rfl rfl ?_
              refine gf_X8_s (pc := 104) hX dX8_triesFor_104 hX8 (List.mem_of_getElem? (i := 3) rfl) 0 rfl rfl ?_
              refine w_bipush (pc := 107) hX dX8_triesFor_107 bp_42 ?_
              refine w_iload_n (pc := 109) hX dX8_triesFor_109 rfl rfl ?_
              refine w_iadd (pc := 110) hX dX8_triesFor_110 ?_
              refine w_iconst (pc := 111) hX dX8_triesFor_111 ic_0 ?_
              refine w_iast (pc := 112) hX dX8_triesFor_112 1 rfl hm (fun hm => ?_)
              refine w_iload (pc := 113) hX dX8_triesFor_113 rfl ?_
              refine w_aload_n (pc := 115) hX dX8_triesFor_115 rfl rfl ?_
              refine gf_X8_bestFault (pc := 116) hX dX8_triesFor_116 hX8 (List.mem_of_getElem? (i := 4) rfl) 0 rfl rfl ?_
              refine w_icmp_ge (pc := 119) (tgt := 138) hX dX8_triesFor_119 (by decide) hm (fun hm => ?_) (fun hm => ?_)
              ·
                exact w_lvs [true, true, true, false, false] (hj9 ((upd (upd x4.2.1 ((42 : Int32) + x4.1).toNatClampNeg (1 : Int32)) ((42 : Int32) + x4.1).toNatClampNeg (0 : Int32)), r10.2.1, r10.2.2.1, r10.2.2.2.1, r10.2.2.2.2.1, r10.2.2.2.2.2.1, r10.2.2.2.2.2.2, x4.2.2.2.2.2.2.2.2.1, x4.2.2.2.2.2.2.2.2.2.1, x4.2.2.2.2.2.2.2.2.2.2) hm)
              ·
                refine w_aload_n (pc := 122) hX dX8_triesFor_122 rfl rfl ?_
                refine w_iload (pc := 123) hX dX8_triesFor_123 rfl ?_
                refine pf_X8_bestFault (pc := 125) hX dX8_triesFor_125 hX8 (List.mem_of_getElem? (i := 4) rfl) 0 rfl rfl ?_
                refine w_aload_n (pc := 128) hX dX8_triesFor_128 rfl rfl ?_
                refine w_iload_n (pc := 129) hX dX8_triesFor_129 rfl rfl ?_
                refine pf_X8_bestAway (pc := 130) hX dX8_triesFor_130 hX8 (List.mem_of_getElem? (i := 5) rfl) 0 rfl rfl ?_
                refine w_aload_n (pc := 133) hX dX8_triesFor_133 rfl rfl ?_
                refine w_iload_n (pc := 134) hX dX8_triesFor_134 rfl rfl ?_
                refine pf_X8_bestMade (pc := 135) hX dX8_triesFor_135 hX8 (List.mem_of_getElem? (i := 6) rfl) 0 rfl rfl ?_
                exact w_lvs [true, true, true, false, false] (hj9 ((upd (upd x4.2.1 ((42 : Int32) + x4.1).toNatClampNeg (1 : Int32)) ((42 : Int32) + x4.1).toNatClampNeg (0 : Int32)), r10.2.1, r10.2.2.1, r10.2.2.2.1, r10.2.2.2.2.1, r10.2.2.2.2.2.1, r10.2.2.2.2.2.2, g1, x4.1, r10.1) hm)
  ·
    refine w_lvs [true, true, true, false, false] ?_
    refine lpr_ind (T := fun x11 : (Int32 × nF) => WW G X 0 0 (wX8 G a_t m_s m_begun m_kept m_isKept m_past m_states m_text m_length r1.1 r1.2 m_isOn m_steps m_wayCells m_turns m_visits m_wasSo m_bestAway m_bestMade m_bestFault x11.2 m_place m_reason m_wide m_high) [some (.ref (a_t 0)), some (.int g1), some (.int x11.1), none, none] 9 []) (fun self12 hself12 x11 hm => ?_) F ((0 : Int32), m_isHere) hm
    unfold mX8_triesFor_L9 at hm
    refine w_iload_n (pc := 9) hX dX8_triesFor_9 rfl rfl ?_
    refine w_aload_n (pc := 10) hX dX8_triesFor_10 rfl rfl ?_
    obtain ⟨r13, hr13, hm⟩ := bnd hm
    refine w_callpi (pc := 11) hX [0, 1, 2, 3, 4, 5, 6, 7, 8, 9, 10, 11, 12] (runV (rest := [.int x11.1]) hX [0, 1, 2, 3, 4, 5, 6, 7, 8, 9, 10, 11, 12] (ctX8_cells G a_t m_s m_begun m_kept m_isKept m_past m_states m_text m_length r1.1 r1.2 m_isOn m_steps m_wayCells m_turns m_visits m_wasSo m_bestAway m_bestMade m_bestFault x11.2 m_place m_reason m_wide m_high r13 hr13) dX8_triesFor_11 0 gX8_triesFor_X8_cells rfl hyX8_cells ⟨Nat.le_of_ble_eq_true rfl, Nat.le_of_ble_eq_true rfl⟩ 0 rfl rfl rfl rfl (Nat.le_of_ble_eq_true rfl) ⟨Nat.le_of_ble_eq_true rfl, Nat.le_of_ble_eq_true rfl⟩ rfl (by decide +kernel)) rfl ⟨rfl, rfl⟩ ?_
    refine w_icmp_ge (pc := 14) (tgt := 43) hX dX8_triesFor_14 (by decide) hm (fun hm => ?_) (fun hm => ?_)
    ·
      exact w_lvs [true, true, false, false, false] (hj3 x11.2 hm)
    ·
      refine w_aload_n (pc := 17) hX dX8_triesFor_17 rfl rfl ?_
      refine gf_X8_isHere (pc := 18) hX dX8_triesFor_18 hX8 (List.mem_of_getElem? (i := 1) rfl) 0 rfl rfl ?_
      refine w_iload_n (pc := 21) hX dX8_triesFor_21 rfl rfl ?_
      refine w_aload_n (pc := 22) hX dX8_triesFor_22 rfl rfl ?_
      refine gf_X8_far (pc := 23) hX dX8_triesFor_23 hX8 (List.mem_of_getElem? (i := 2) rfl) 0 rfl rfl ?_
      refine w_iload_n (pc := 26) hX dX8_triesFor_26 rfl rfl ?_
      refine w_iald (pc := 27) hX dX8_triesFor_27 6 rfl hm (fun hm => ?_)
      refine w_jn (T := fun x14 : Int32 => WW G X 0 0 (wX8 G a_t m_s m_begun m_kept m_isKept m_past m_states m_text m_length r1.1 r1.2 m_isOn m_steps m_wayCells m_turns m_visits m_wasSo m_bestAway m_bestMade m_bestFault x11.2 m_place m_reason m_wide m_high) [some (.ref (a_t 0)), some (.int g1), some (.int x11.1), none, none] 36 [.int x14, .int x11.1, .ref (a_t 12)]) hm (fun x14 hm => ?_) (fun j15 hj15 hm => ?_)
      ·
        refine w_zast (pc := 36) hX dX8_triesFor_36 12 rfl hm (fun hm => ?_)
        refine w_iinc (pc := 37) hX dX8_triesFor_37 rfl (Nat.le_of_ble_eq_true rfl) ic_1 ?_
        refine w_goto (pc := 40) (tgt := 9) hX dX8_triesFor_40 (by decide) ?_
        exact w_lvs [true, true, true, false, false] (hself12 (x11.1 + (1 : Int32), (upd x11.2 x11.1.toNatClampNeg (vp_nar .boolean x14))) hm)
      ·
        refine w_if_lt (pc := 28) (tgt := 35) hX dX8_triesFor_28 (by decide) hm (fun hm => ?_) (fun hm => ?_)
        ·
          refine w_iconst (pc := 35) hX dX8_triesFor_35 ic_0 ?_
          exact w_lvs [true, true, true, false, false] (hj15 (0 : Int32) hm)
        ·
          refine w_iconst (pc := 31) hX dX8_triesFor_31 ic_1 ?_
          refine w_goto (pc := 32) (tgt := 36) hX dX8_triesFor_32 (by decide) ?_
          exact w_lvs [true, true, true, false, false] (hj15 (1 : Int32) hm)

theorem lX8_looksForBest_X8 : ∀ w ∈ wsX80, w ∈ wsX8_looksForBest := in_at [54, 55, 56, 57, 58, 59, 60, 61, 62, 63, 64, 65, 66, 67, 68, 69, 70, 71, 72, 73, 74, 75, 76, 77] (by decide +kernel)
set_option maxHeartbeats 4000000 in
set_option maxRecDepth 100000 in
theorem ctX8_looksForBest (G : gT) (F : Nat) (a_t : Nat → Nat) (m_s : nF) (m_begun : nF) (m_kept : nF) (m_isKept : Int32) (m_past : nF) (m_states : Int32) (m_text : nF) (m_length : Int32) (m_far : nF) (m_queue : nF) (m_isOn : nF) (m_steps : nF) (m_wayCells : Int32) (m_turns : Int32) (m_visits : nF) (m_wasSo : nF) (m_bestAway : Int32) (m_bestMade : Int32) (m_bestFault : Int32) (m_isHere : nF) (m_place : Int32) (m_reason : Int32) (m_wide : Int32) (m_high : Int32) (o : (nF × nF × nF × nF × nF × Int32 × Int32 × Int32 × Int32 × Int32 × nF)) (hm : mX8_looksForBest F m_s m_far m_queue m_isOn m_steps m_wayCells m_turns m_bestAway m_bestMade m_bestFault m_isHere = some o) : CT G yX8_looksForBest wsX8_looksForBest rmX8_looksForBest [.ref (a_t 0)] (wX8 G a_t m_s m_begun m_kept m_isKept m_past m_states m_text m_length m_far m_queue m_isOn m_steps m_wayCells m_turns m_visits m_wasSo m_bestAway m_bestMade m_bestFault m_isHere m_place m_reason m_wide m_high) (fun v w => v = none ∧ w = wX8 G a_t o.1 m_begun m_kept m_isKept m_past m_states m_text m_length o.2.1 o.2.2.1 o.2.2.2.1 o.2.2.2.2.1 o.2.2.2.2.2.1 o.2.2.2.2.2.2.1 m_visits m_wasSo o.2.2.2.2.2.2.2.1 o.2.2.2.2.2.2.2.2.1 o.2.2.2.2.2.2.2.2.2.1 o.2.2.2.2.2.2.2.2.2.2 m_place m_reason m_wide m_high) := by
  refine CT_of (cc := cX8_looksForBest) (maxL := 2) (ret := none) 1 (by decide +kernel) rfl rfl (cat_ok rfl) (fun X hX hR hN => ?_)
  have hX : Ok G X cX8_looksForBest RX8 wsX8_looksForBest 2 rmX8_looksForBest := hX
  have hX8 : ∀ w ∈ wsX80, w ∈ wsX8_looksForBest := lX8_looksForBest_X8
  unfold mX8_looksForBest at hm
  refine w_aload_n (pc := 0) hX dX8_looksForBest_0 rfl rfl ?_
  refine w_ldc (pc := 1) hX dX8_looksForBest_1 (List.mem_of_getElem? (i := 1) rfl) ?_
  refine pf_X8_bestFault (pc := 3) hX dX8_looksForBest_3 hX8 (List.mem_of_getElem? (i := 2) rfl) 0 rfl rfl ?_
  refine w_iconst (pc := 6) hX dX8_looksForBest_6 ic_0 ?_
  refine w_istore_n (pc := 7) hX dX8_looksForBest_7 rfl (Nat.le_of_ble_eq_true rfl) ?_
  refine w_lvs [true, true] ?_
  refine lpr_ind (T := fun x1 : (Int32 × nF × nF × nF × nF × nF × Int32 × Int32 × Int32 × Int32 × Int32 × nF) => WW G X 0 0 (wX8 G a_t x1.2.1 m_begun m_kept m_isKept m_past m_states m_text m_length x1.2.2.1 x1.2.2.2.1 x1.2.2.2.2.1 x1.2.2.2.2.2.1 x1.2.2.2.2.2.2.1 x1.2.2.2.2.2.2.2.1 m_visits m_wasSo x1.2.2.2.2.2.2.2.2.1 x1.2.2.2.2.2.2.2.2.2.1 x1.2.2.2.2.2.2.2.2.2.2.1 x1.2.2.2.2.2.2.2.2.2.2.2 m_place m_reason m_wide m_high) [some (.ref (a_t 0)), some (.int x1.1)] 8 []) (fun self2 hself2 x1 hm => ?_) F ((0 : Int32), m_s, m_far, m_queue, m_isOn, m_steps, m_wayCells, m_turns, m_bestAway, m_bestMade, (1000000 : Int32), m_isHere) hm
  unfold mX8_looksForBest_L8 at hm
  refine w_iload_n (pc := 8) hX dX8_looksForBest_8 rfl rfl ?_
  refine w_iconst (pc := 9) hX dX8_looksForBest_9 ic_2 ?_
  refine w_aload_n (pc := 10) hX dX8_looksForBest_10 rfl rfl ?_
  obtain ⟨r3, hr3, hm⟩ := bnd hm
  refine w_callpi (pc := 11) hX [0, 1, 2, 3, 4, 5, 6, 7, 8, 9, 10, 11, 12] (runV (rest := [.int (2 : Int32), .int x1.1]) hX [0, 1, 2, 3, 4, 5, 6, 7, 8, 9, 10, 11, 12] (ctX8_cells G a_t x1.2.1 m_begun m_kept m_isKept m_past m_states m_text m_length x1.2.2.1 x1.2.2.2.1 x1.2.2.2.2.1 x1.2.2.2.2.2.1 x1.2.2.2.2.2.2.1 x1.2.2.2.2.2.2.2.1 m_visits m_wasSo x1.2.2.2.2.2.2.2.2.1 x1.2.2.2.2.2.2.2.2.2.1 x1.2.2.2.2.2.2.2.2.2.2.1 x1.2.2.2.2.2.2.2.2.2.2.2 m_place m_reason m_wide m_high r3 hr3) dX8_looksForBest_11 0 gX8_looksForBest_X8_cells rfl hyX8_cells ⟨Nat.le_of_ble_eq_true rfl, Nat.le_of_ble_eq_true rfl⟩ 0 rfl rfl rfl rfl (Nat.le_of_ble_eq_true rfl) ⟨Nat.le_of_ble_eq_true rfl, Nat.le_of_ble_eq_true rfl⟩ rfl (by decide +kernel)) rfl ⟨rfl, rfl⟩ ?_
  refine w_imul (pc := 14) hX dX8_looksForBest_14 ?_
  refine w_icmp_ge (pc := 15) (tgt := 62) hX dX8_looksForBest_15 (by decide) hm (fun hm => ?_) (fun hm => ?_)
  ·
    obtain rfl := som hm
    exact w_vret (pc := 62) hX hR dX8_looksForBest_62 ⟨rfl, rfl⟩
  ·
    refine w_aload_n (pc := 18) hX dX8_looksForBest_18 rfl rfl ?_
    refine gf_X8_s (pc := 19) hX dX8_looksForBest_19 hX8 (List.mem_of_getElem? (i := 3) rfl) 0 rfl rfl ?_
    refine w_bipush (pc := 22) hX dX8_looksForBest_22 bp_42 ?_
    refine w_iload_n (pc := 24) hX dX8_looksForBest_24 rfl rfl ?_
    refine w_iadd (pc := 25) hX dX8_looksForBest_25 ?_
    refine w_iald (pc := 26) hX dX8_looksForBest_26 1 rfl hm (fun hm => ?_)
    refine w_iconst (pc := 27) hX dX8_looksForBest_27 ic_1 ?_
    refine w_jn (T := fun x4 : (nF × nF × nF × nF × nF × Int32 × Int32 × Int32 × Int32 × Int32 × nF) => WW G X 0 0 (wX8 G a_t x4.1 m_begun m_kept m_isKept m_past m_states m_text m_length x4.2.1 x4.2.2.1 x4.2.2.2.1 x4.2.2.2.2.1 x4.2.2.2.2.2.1 x4.2.2.2.2.2.2.1 m_visits m_wasSo x4.2.2.2.2.2.2.2.1 x4.2.2.2.2.2.2.2.2.1 x4.2.2.2.2.2.2.2.2.2.1 x4.2.2.2.2.2.2.2.2.2.2 m_place m_reason m_wide m_high) [some (.ref (a_t 0)), some (.int x1.1)] 56 []) hm (fun x4 hm => ?_) (fun j5 hj5 hm => ?_)
    ·
      refine w_iinc (pc := 56) hX dX8_looksForBest_56 rfl (Nat.le_of_ble_eq_true rfl) ic_1 ?_
      refine w_goto (pc := 59) (tgt := 8) hX dX8_looksForBest_59 (by decide) ?_
      exact w_lvs [true, true] (hself2 (x1.1 + (1 : Int32), x4.1, x4.2.1, x4.2.2.1, x4.2.2.2.1, x4.2.2.2.2.1, x4.2.2.2.2.2.1, x4.2.2.2.2.2.2.1, x4.2.2.2.2.2.2.2.1, x4.2.2.2.2.2.2.2.2.1, x4.2.2.2.2.2.2.2.2.2.1, x4.2.2.2.2.2.2.2.2.2.2) hm)
    ·
      refine w_icmp_ne (pc := 28) (tgt := 56) hX dX8_looksForBest_28 (by decide) hm (fun hm => ?_) (fun hm => ?_)
      ·
        exact w_lvs [true, true] (hj5 (x1.2.1, x1.2.2.1, x1.2.2.2.1, x1.2.2.2.2.1, x1.2.2.2.2.2.1, x1.2.2.2.2.2.2.1, x1.2.2.2.2.2.2.2.1, x1.2.2.2.2.2.2.2.2.1, x1.2.2.2.2.2.2.2.2.2.1, x1.2.2.2.2.2.2.2.2.2.2.1, x1.2.2.2.2.2.2.2.2.2.2.2) hm)
      ·
        refine w_aload_n (pc := 31) hX dX8_looksForBest_31 rfl rfl ?_
        refine gf_X8_s (pc := 32) hX dX8_looksForBest_32 hX8 (List.mem_of_getElem? (i := 3) rfl) 0 rfl rfl ?_
        refine w_bipush (pc := 35) hX dX8_looksForBest_35 bp_42 ?_
        refine w_iload_n (pc := 37) hX dX8_looksForBest_37 rfl rfl ?_
        refine w_iadd (pc := 38) hX dX8_looksForBest_38 ?_
        refine w_iconst (pc := 39) hX dX8_looksForBest_39 ic_0 ?_
        refine w_iast (pc := 40) hX dX8_looksForBest_40 1 rfl hm (fun hm => ?_)
        refine w_aload_n (pc := 41) hX dX8_looksForBest_41 rfl rfl ?_
        refine w_iload_n (pc := 42) hX dX8_looksForBest_42 rfl rfl ?_
        obtain ⟨r6, hr6, hm⟩ := bnd hm
        refine w_calldv (pc := 43) (ws' := wX8 G a_t r6.1 m_begun m_kept m_isKept m_past m_states m_text m_length r6.2.1 r6.2.2.1 r6.2.2.2.1 r6.2.2.2.2.1 r6.2.2.2.2.2.1 r6.2.2.2.2.2.2.1 m_visits m_wasSo r6.2.2.2.2.2.2.2.1 r6.2.2.2.2.2.2.2.2.1 r6.2.2.2.2.2.2.2.2.2.1 r6.2.2.2.2.2.2.2.2.2.2 m_place m_reason m_wide m_high) (os := [some 0, some 1, some 2, some 3, some 4, some 5, some 6, some 7, some 8, some 9, some 10, some 11, some 12]) 13 hX [0, 1, 2, 3, 4, 5, 6, 7, 8, 9, 10, 11, 12] (runV (rest := []) hX [0, 1, 2, 3, 4, 5, 6, 7, 8, 9, 10, 11, 12] (ctX8_triesFor G F a_t (upd x1.2.1 ((42 : Int32) + x1.1).toNatClampNeg (0 : Int32)) m_begun m_kept m_isKept m_past m_states m_text m_length x1.2.2.1 x1.2.2.2.1 x1.2.2.2.2.1 x1.2.2.2.2.2.1 x1.2.2.2.2.2.2.1 x1.2.2.2.2.2.2.2.1 m_visits m_wasSo x1.2.2.2.2.2.2.2.2.1 x1.2.2.2.2.2.2.2.2.2.1 x1.2.2.2.2.2.2.2.2.2.2.1 x1.2.2.2.2.2.2.2.2.2.2.2 m_place m_reason m_wide m_high x1.1 r6 hr6) dX8_looksForBest_43 1 gX8_looksForBest_X8_triesFor rfl hyX8_triesFor ⟨Nat.le_of_ble_eq_true rfl, Nat.le_of_ble_eq_true rfl⟩ 0 rfl rfl rfl rfl (Nat.le_of_ble_eq_true rfl) ⟨Nat.le_of_ble_eq_true rfl, Nat.le_of_ble_eq_true rfl⟩ rfl (by decide +kernel)) rfl rfl rfl (by decide +kernel) rfl ⟨rfl, rfl⟩ ?_
        refine w_aload_n (pc := 46) hX dX8_looksForBest_46 rfl rfl ?_
        refine gf_X8_s (pc := 47) hX dX8_looksForBest_47 hX8 (List.mem_of_getElem? (i := 3) rfl) 0 rfl rfl ?_
        refine w_bipush (pc := 50) hX dX8_looksForBest_50 bp_42 ?_
        refine w_iload_n (pc := 52) hX dX8_looksForBest_52 rfl rfl ?_
        refine w_iadd (pc := 53) hX dX8_looksForBest_53 ?_
        refine w_iconst (pc := 54) hX dX8_looksForBest_54 ic_1 ?_
        refine w_iast (pc := 55) hX dX8_looksForBest_55 1 rfl hm (fun hm => ?_)
        exact w_lvs [true, true] (hj5 ((upd r6.1 ((42 : Int32) + x1.1).toNatClampNeg (1 : Int32)), r6.2.1, r6.2.2.1, r6.2.2.2.1, r6.2.2.2.2.1, r6.2.2.2.2.2.1, r6.2.2.2.2.2.2.1, r6.2.2.2.2.2.2.2.1, r6.2.2.2.2.2.2.2.2.1, r6.2.2.2.2.2.2.2.2.2.1, r6.2.2.2.2.2.2.2.2.2.2) hm)

theorem lX8_exchanges_X8 : ∀ w ∈ wsX80, w ∈ wsX8_exchanges := in_at [4, 5, 6, 7, 8, 9, 10, 11, 12, 13, 14, 15, 16, 17, 18, 19, 20, 21, 22, 23, 24, 25, 26, 27] (by decide +kernel)
set_option maxHeartbeats 4000000 in
set_option maxRecDepth 100000 in
theorem ctX8_exchanges (G : gT) (a_t : Nat → Nat) (m_s : nF) (m_begun : nF) (m_kept : nF) (m_isKept : Int32) (m_past : nF) (m_states : Int32) (m_text : nF) (m_length : Int32) (m_far : nF) (m_queue : nF) (m_isOn : nF) (m_steps : nF) (m_wayCells : Int32) (m_turns : Int32) (m_visits : nF) (m_wasSo : nF) (m_bestAway : Int32) (m_bestMade : Int32) (m_bestFault : Int32) (m_isHere : nF) (m_place : Int32) (m_reason : Int32) (m_wide : Int32) (m_high : Int32) (o : nF) (hm : mX8_exchanges m_s m_bestAway m_bestMade = some o) : CT G yX8_exchanges wsX8_exchanges rmX8_exchanges [.ref (a_t 0)] (wX8 G a_t m_s m_begun m_kept m_isKept m_past m_states m_text m_length m_far m_queue m_isOn m_steps m_wayCells m_turns m_visits m_wasSo m_bestAway m_bestMade m_bestFault m_isHere m_place m_reason m_wide m_high) (fun v w => v = none ∧ w = wX8 G a_t o m_begun m_kept m_isKept m_past m_states m_text m_length m_far m_queue m_isOn m_steps m_wayCells m_turns m_visits m_wasSo m_bestAway m_bestMade m_bestFault m_isHere m_place m_reason m_wide m_high) := by
  refine CT_of (cc := cX8_exchanges) (maxL := 1) (ret := none) 0 (by decide +kernel) rfl rfl (cat_ok rfl) (fun X hX hR hN => ?_)
  have hX : Ok G X cX8_exchanges RX8 wsX8_exchanges 1 rmX8_exchanges := hX
  have hX8 : ∀ w ∈ wsX80, w ∈ wsX8_exchanges := lX8_exchanges_X8
  unfold mX8_exchanges at hm
  refine w_aload_n (pc := 0) hX dX8_exchanges_0 rfl rfl ?_
  refine gf_X8_s (pc := 1) hX dX8_exchanges_1 hX8 (List.mem_of_getElem? (i := 1) rfl) 0 rfl rfl ?_
  refine w_bipush (pc := 4) hX dX8_exchanges_4 bp_42 ?_
  refine w_aload_n (pc := 6) hX dX8_exchanges_6 rfl rfl ?_
  refine gf_X8_bestAway (pc := 7) hX dX8_exchanges_7 hX8 (List.mem_of_getElem? (i := 2) rfl) 0 rfl rfl ?_
  refine w_iadd (pc := 10) hX dX8_exchanges_10 ?_
  refine w_iconst (pc := 11) hX dX8_exchanges_11 ic_0 ?_
  refine w_iast (pc := 12) hX dX8_exchanges_12 1 rfl hm (fun hm => ?_)
  refine w_aload_n (pc := 13) hX dX8_exchanges_13 rfl rfl ?_
  refine gf_X8_s (pc := 14) hX dX8_exchanges_14 hX8 (List.mem_of_getElem? (i := 1) rfl) 0 rfl rfl ?_
  refine w_bipush (pc := 17) hX dX8_exchanges_17 bp_42 ?_
  refine w_aload_n (pc := 19) hX dX8_exchanges_19 rfl rfl ?_
  refine gf_X8_bestMade (pc := 20) hX dX8_exchanges_20 hX8 (List.mem_of_getElem? (i := 3) rfl) 0 rfl rfl ?_
  refine w_iadd (pc := 23) hX dX8_exchanges_23 ?_
  refine w_iconst (pc := 24) hX dX8_exchanges_24 ic_1 ?_
  refine w_iast (pc := 25) hX dX8_exchanges_25 1 rfl hm (fun hm => ?_)
  obtain rfl := som hm
  exact w_vret (pc := 26) hX hR dX8_exchanges_26 ⟨rfl, rfl⟩

theorem lX8_build_X8 : ∀ w ∈ wsX80, w ∈ wsX8_build := in_at [56, 57, 58, 59, 60, 61, 62, 63, 64, 65, 66, 67, 68, 69, 70, 71, 72, 73, 74, 75, 76, 77, 78, 79] (by decide +kernel)
set_option maxHeartbeats 4000000 in
set_option maxRecDepth 100000 in
theorem ctX8_build (G : gT) (F : Nat) (a_t : Nat → Nat) (m_s : nF) (m_begun : nF) (m_kept : nF) (m_isKept : Int32) (m_past : nF) (m_states : Int32) (m_text : nF) (m_length : Int32) (m_far : nF) (m_queue : nF) (m_isOn : nF) (m_steps : nF) (m_wayCells : Int32) (m_turns : Int32) (m_visits : nF) (m_wasSo : nF) (m_bestAway : Int32) (m_bestMade : Int32) (m_bestFault : Int32) (m_isHere : nF) (m_place : Int32) (m_reason : Int32) (m_wide : Int32) (m_high : Int32) (o : (Int32 × nF × nF × nF × Int32 × nF × nF)) (hm : mX8_build F m_s m_begun m_past m_states m_far m_queue = some o) : CT G yX8_build wsX8_build rmX8_build [.ref (a_t 0)] (wX8 G a_t m_s m_begun m_kept m_isKept m_past m_states m_text m_length m_far m_queue m_isOn m_steps m_wayCells m_turns m_visits m_wasSo m_bestAway m_bestMade m_bestFault m_isHere m_place m_reason m_wide m_high) (fun v w => v = some (.int o.1) ∧ w = wX8 G a_t o.2.1 o.2.2.1 m_kept m_isKept o.2.2.2.1 o.2.2.2.2.1 m_text m_length o.2.2.2.2.2.1 o.2.2.2.2.2.2 m_isOn m_steps m_wayCells m_turns m_visits m_wasSo m_bestAway m_bestMade m_bestFault m_isHere m_place m_reason m_wide m_high) := by
  refine CT_of (cc := cX8_build) (maxL := 7) (ret := (some .int)) 6 (by decide +kernel) rfl rfl (cat_ok rfl) (fun X hX hR hN => ?_)
  have hX : Ok G X cX8_build RX8 wsX8_build 7 rmX8_build := hX
  have hX8 : ∀ w ∈ wsX80, w ∈ wsX8_build := lX8_build_X8
  unfold mX8_build at hm
  refine w_aload_n (pc := 0) hX dX8_build_0 rfl rfl ?_
  obtain ⟨r1, hr1, hm⟩ := bnd hm
  refine w_calldv (pc := 1) (ws' := wX8 G a_t m_s r1 m_kept m_isKept m_past m_states m_text m_length m_far m_queue m_isOn m_steps m_wayCells m_turns m_visits m_wasSo m_bestAway m_bestMade m_bestFault m_isHere m_place m_reason m_wide m_high) (os := [some 0, some 1, some 2, some 3, some 4, some 5, some 6, some 7, some 8, some 9, some 10, some 11, some 12]) 13 hX [0, 1, 2, 3, 4, 5, 6, 7, 8, 9, 10, 11, 12] (runV (rest := []) hX [0, 1, 2, 3, 4, 5, 6, 7, 8, 9, 10, 11, 12] (ctX8_begins G F a_t m_s m_begun m_kept m_isKept m_past m_states m_text m_length m_far m_queue m_isOn m_steps m_wayCells m_turns m_visits m_wasSo m_bestAway m_bestMade m_bestFault m_isHere m_place m_reason m_wide m_high r1 hr1) dX8_build_1 0 gX8_build_X8_begins rfl hyX8_begins ⟨Nat.le_of_ble_eq_true rfl, Nat.le_of_ble_eq_true rfl⟩ 0 rfl rfl rfl rfl (Nat.le_of_ble_eq_true rfl) ⟨Nat.le_of_ble_eq_true rfl, Nat.le_of_ble_eq_true rfl⟩ rfl (by decide +kernel)) rfl rfl rfl (by decide +kernel) rfl ⟨rfl, rfl⟩ ?_
  refine w_aload_n (pc := 4) hX dX8_build_4 rfl rfl ?_
  obtain ⟨r2, hr2, hm⟩ := bnd hm
  refine w_callpi (pc := 5) hX [0, 1, 2, 3, 4, 5, 6, 7, 8, 9, 10, 11, 12] (runV (rest := []) hX [0, 1, 2, 3, 4, 5, 6, 7, 8, 9, 10, 11, 12] (ctX8_isWhole G F a_t m_s r1 m_kept m_isKept m_past m_states m_text m_length m_far m_queue m_isOn m_steps m_wayCells m_turns m_visits m_wasSo m_bestAway m_bestMade m_bestFault m_isHere m_place m_reason m_wide m_high r2 hr2) dX8_build_5 0 gX8_build_X8_isWhole rfl hyX8_isWhole ⟨Nat.le_of_ble_eq_true rfl, Nat.le_of_ble_eq_true rfl⟩ 0 rfl rfl rfl rfl (Nat.le_of_ble_eq_true rfl) ⟨Nat.le_of_ble_eq_true rfl, Nat.le_of_ble_eq_true rfl⟩ rfl (by decide +kernel)) rfl ⟨rfl, rfl⟩ ?_
  refine w_if_eq (pc := 8) (tgt := 14) hX dX8_build_8 (by decide) hm (fun hm => ?_) (fun hm => ?_)
  ·
    refine w_iconst (pc := 14) hX dX8_build_14 ic_0 ?_
    refine w_istore_n (pc := 15) hX dX8_build_15 rfl (Nat.le_of_ble_eq_true rfl) ?_
    refine w_jn (T := fun x3 : (Int32 × nF × nF × nF) => WW G X 0 0 (wX8 G a_t x3.2.1 r1 m_kept m_isKept m_past m_states m_text m_length x3.2.2.1 x3.2.2.2 m_isOn m_steps m_wayCells m_turns m_visits m_wasSo m_bestAway m_bestMade m_bestFault m_isHere m_place m_reason m_wide m_high) [some (.ref (a_t 0)), some (.int x3.1), none, none, none, none, none] 130 []) hm (fun x3 hm => ?_) (fun j4 hj4 hm => ?_)
    ·
      unfold mX8_build_K130 at hm
      refine w_aload_n (pc := 130) hX dX8_build_130 rfl rfl ?_
      refine w_iload_n (pc := 131) hX dX8_build_131 rfl rfl ?_
      obtain ⟨r5, hr5, hm⟩ := bnd hm
      refine w_calldi (pc := 132) (ws' := wX8 G a_t r5.2.1 r1 m_kept m_isKept r5.2.2.1 r5.2.2.2 m_text m_length x3.2.2.1 x3.2.2.2 m_isOn m_steps m_wayCells m_turns m_visits m_wasSo m_bestAway m_bestMade m_bestFault m_isHere m_place m_reason m_wide m_high) (os := [some 0, some 1, some 2, some 3, some 4, some 5, some 6, some 7, some 8, some 9, some 10, some 11, some 12]) 13 hX [0, 1, 2, 3, 4, 5, 6, 7, 8, 9, 10, 11, 12] (runV (rest := []) hX [0, 1, 2, 3, 4, 5, 6, 7, 8, 9, 10, 11, 12] (ctX8_acted G F a_t x3.2.1 r1 m_kept m_isKept m_past m_states m_text m_length x3.2.2.1 x3.2.2.2 m_isOn m_steps m_wayCells m_turns m_visits m_wasSo m_bestAway m_bestMade m_bestFault m_isHere m_place m_reason m_wide m_high x3.1 r5 hr5) dX8_build_132 1 gX8_build_X8_acted rfl hyX8_acted ⟨Nat.le_of_ble_eq_true rfl, Nat.le_of_ble_eq_true rfl⟩ 0 rfl rfl rfl rfl (Nat.le_of_ble_eq_true rfl) ⟨Nat.le_of_ble_eq_true rfl, Nat.le_of_ble_eq_true rfl⟩ rfl (by decide +kernel)) rfl rfl rfl (by decide +kernel) rfl ⟨rfl, rfl⟩ ?_
      obtain rfl := som hm
      exact w_iret (pc := 135) hX hR dX8_build_135 ⟨rfl, rfl⟩
    ·
      refine w_lvs [true, true, false, false, false, false, false] ?_
      refine lpr_ind (T := fun x6 : (Int32 × nF × nF × nF) => WW G X 0 0 (wX8 G a_t x6.2.1 r1 m_kept m_isKept m_past m_states m_text m_length x6.2.2.1 x6.2.2.2 m_isOn m_steps m_wayCells m_turns m_visits m_wasSo m_bestAway m_bestMade m_bestFault m_isHere m_place m_reason m_wide m_high) [some (.ref (a_t 0)), some (.int x6.1), none, none, none, none, none] 16 []) (fun self7 hself7 x6 hm => ?_) F ((0 : Int32), m_s, m_far, m_queue) hm
      unfold mX8_build_L16 at hm
      refine w_aload_n (pc := 16) hX dX8_build_16 rfl rfl ?_
      obtain ⟨r8, hr8, hm⟩ := bnd hm
      refine w_callpi (pc := 17) hX [0, 1, 2, 3, 4, 5, 6, 7, 8, 9, 10, 11, 12] (runV (rest := []) hX [0, 1, 2, 3, 4, 5, 6, 7, 8, 9, 10, 11, 12] (ctX8_isWhole G F a_t x6.2.1 r1 m_kept m_isKept m_past m_states m_text m_length x6.2.2.1 x6.2.2.2 m_isOn m_steps m_wayCells m_turns m_visits m_wasSo m_bestAway m_bestMade m_bestFault m_isHere m_place m_reason m_wide m_high r8 hr8) dX8_build_17 0 gX8_build_X8_isWhole rfl hyX8_isWhole ⟨Nat.le_of_ble_eq_true rfl, Nat.le_of_ble_eq_true rfl⟩ 0 rfl rfl rfl rfl (Nat.le_of_ble_eq_true rfl) ⟨Nat.le_of_ble_eq_true rfl, Nat.le_of_ble_eq_true rfl⟩ rfl (by decide +kernel)) rfl ⟨rfl, rfl⟩ ?_
      refine w_if_ne (pc := 20) (tgt := 130) hX dX8_build_20 (by decide) hm (fun hm => ?_) (fun hm => ?_)
      ·
        exact w_lvs [true, true, false, false, false, false, false] (hj4 (x6.1, x6.2.1, x6.2.2.1, x6.2.2.2) hm)
      ·
        refine w_iconst (pc := 23) hX dX8_build_23 ic_m1 ?_
        refine w_istore_n (pc := 24) hX dX8_build_24 rfl (Nat.le_of_ble_eq_true rfl) ?_
        refine w_iconst (pc := 25) hX dX8_build_25 ic_m1 ?_
        refine w_istore_n (pc := 26) hX dX8_build_26 rfl (Nat.le_of_ble_eq_true rfl) ?_
        refine w_iconst (pc := 27) hX dX8_build_27 ic_0 ?_
        refine w_istore (pc := 28) hX dX8_build_28 (Nat.le_of_ble_eq_true rfl) ?_
        refine w_jn (T := fun x9 : (Int32 × nF × nF) => WW G X 0 0 (wX8 G a_t x6.2.1 r1 m_kept m_isKept m_past m_states m_text m_length x9.2.1 x9.2.2 m_isOn m_steps m_wayCells m_turns m_visits m_wasSo m_bestAway m_bestMade m_bestFault m_isHere m_place m_reason m_wide m_high) [some (.ref (a_t 0)), some (.int x6.1), some (.int x9.1), none, none, none, none] 114 []) hm (fun x9 hm => ?_) (fun j10 hj10 hm => ?_)
        ·
          unfold mX8_build_K114 at hm
          refine w_aload_n (pc := 114) hX dX8_build_114 rfl rfl ?_
          refine gf_X8_s (pc := 115) hX dX8_build_115 hX8 (List.mem_of_getElem? (i := 1) rfl) 0 rfl rfl ?_
          refine w_bipush (pc := 118) hX dX8_build_118 bp_42 ?_
          refine w_iload_n (pc := 120) hX dX8_build_120 rfl rfl ?_
          refine w_iadd (pc := 121) hX dX8_build_121 ?_
          refine w_iconst (pc := 122) hX dX8_build_122 ic_1 ?_
          refine w_iast (pc := 123) hX dX8_build_123 1 rfl hm (fun hm => ?_)
          refine w_iinc (pc := 124) hX dX8_build_124 rfl (Nat.le_of_ble_eq_true rfl) ic_1 ?_
          refine w_goto (pc := 127) (tgt := 16) hX dX8_build_127 (by decide) ?_
          exact w_lvs [true, true, false, false, false, false, false] (hself7 (x6.1 + (1 : Int32), (upd x6.2.1 ((42 : Int32) + x9.1).toNatClampNeg (1 : Int32)), x9.2.1, x9.2.2) hm)
        ·
          refine w_lvs [true, true, true, true, true, false, false] ?_
          refine lpr_ind (T := fun x11 : (Int32 × Int32 × Int32 × nF × nF) => WW G X 0 0 (wX8 G a_t x6.2.1 r1 m_kept m_isKept m_past m_states m_text m_length x11.2.2.2.1 x11.2.2.2.2 m_isOn m_steps m_wayCells m_turns m_visits m_wasSo m_bestAway m_bestMade m_bestFault m_isHere m_place m_reason m_wide m_high) [some (.ref (a_t 0)), some (.int x6.1), some (.int x11.1), some (.int x11.2.1), some (.int x11.2.2.1), none, none] 30 []) (fun self12 hself12 x11 hm => ?_) F ((-1 : Int32), (-1 : Int32), (0 : Int32), x6.2.2.1, x6.2.2.2) hm
          unfold mX8_build_L30 at hm
          refine w_iload (pc := 30) hX dX8_build_30 rfl ?_
          refine w_iconst (pc := 32) hX dX8_build_32 ic_2 ?_
          refine w_aload_n (pc := 33) hX dX8_build_33 rfl rfl ?_
          obtain ⟨r13, hr13, hm⟩ := bnd hm
          refine w_callpi (pc := 34) hX [0, 1, 2, 3, 4, 5, 6, 7, 8, 9, 10, 11, 12] (runV (rest := [.int (2 : Int32), .int x11.2.2.1]) hX [0, 1, 2, 3, 4, 5, 6, 7, 8, 9, 10, 11, 12] (ctX8_cells G a_t x6.2.1 r1 m_kept m_isKept m_past m_states m_text m_length x11.2.2.2.1 x11.2.2.2.2 m_isOn m_steps m_wayCells m_turns m_visits m_wasSo m_bestAway m_bestMade m_bestFault m_isHere m_place m_reason m_wide m_high r13 hr13) dX8_build_34 0 gX8_build_X8_cells rfl hyX8_cells ⟨Nat.le_of_ble_eq_true rfl, Nat.le_of_ble_eq_true rfl⟩ 0 rfl rfl rfl rfl (Nat.le_of_ble_eq_true rfl) ⟨Nat.le_of_ble_eq_true rfl, Nat.le_of_ble_eq_true rfl⟩ rfl (by decide +kernel)) rfl ⟨rfl, rfl⟩ ?_
          refine w_imul (pc := 37) hX dX8_build_37 ?_
          refine w_icmp_ge (pc := 38) (tgt := 114) hX dX8_build_38 (by decide) hm (fun hm => ?_) (fun hm => ?_)
          ·
            exact w_lvs [true, true, true, false, false, false, false] (hj10 (x11.1, x11.2.2.2.1, x11.2.2.2.2) hm)
          ·
            refine w_aload_n (pc := 41) hX dX8_build_41 rfl rfl ?_
            refine w_iload (pc := 42) hX dX8_build_42 rfl ?_
            obtain ⟨r14, hr14, hm⟩ := bnd hm
            refine w_callpi (pc := 44) hX [0, 1, 2, 3, 4, 5, 6, 7, 8, 9, 10, 11, 12] (runV (rest := []) hX [0, 1, 2, 3, 4, 5, 6, 7, 8, 9, 10, 11, 12] (ctX8_second G a_t x6.2.1 r1 m_kept m_isKept m_past m_states m_text m_length x11.2.2.2.1 x11.2.2.2.2 m_isOn m_steps m_wayCells m_turns m_visits m_wasSo m_bestAway m_bestMade m_bestFault m_isHere m_place m_reason m_wide m_high x11.2.2.1 r14 hr14) dX8_build_44 1 gX8_build_X8_second rfl hyX8_second ⟨Nat.le_of_ble_eq_true rfl, Nat.le_of_ble_eq_true rfl⟩ 0 rfl rfl rfl rfl (Nat.le_of_ble_eq_true rfl) ⟨Nat.le_of_ble_eq_true rfl, Nat.le_of_ble_eq_true rfl⟩ rfl (by decide +kernel)) rfl ⟨rfl, rfl⟩ ?_
            refine w_istore (pc := 47) hX dX8_build_47 (Nat.le_of_ble_eq_true rfl) ?_
            refine w_iload (pc := 49) hX dX8_build_49 rfl ?_
            refine w_jn (T := fun x15 : Int32 => WW G X 0 0 (wX8 G a_t x6.2.1 r1 m_kept m_isKept m_past m_states m_text m_length x11.2.2.2.1 x11.2.2.2.2 m_isOn m_steps m_wayCells m_turns m_visits m_wasSo m_bestAway m_bestMade m_bestFault m_isHere m_place m_reason m_wide m_high) [some (.ref (a_t 0)), some (.int x6.1), some (.int x11.1), some (.int x11.2.1), some (.int x11.2.2.1), some (.int r14), none] 81 [.int x15]) hm (fun x15 hm => ?_) (fun j16 hj16 hm => ?_)
            ·
              refine w_istore (pc := 81) hX dX8_build_81 (Nat.le_of_ble_eq_true rfl) ?_
              refine w_iload (pc := 83) hX dX8_build_83 rfl ?_
              refine w_iload_n (pc := 85) hX dX8_build_85 rfl rfl ?_
              refine w_jn (T := fun x17 : (Int32 × Int32 × nF × nF) => WW G X 0 0 (wX8 G a_t x6.2.1 r1 m_kept m_isKept m_past m_states m_text m_length x17.2.2.1 x17.2.2.2 m_isOn m_steps m_wayCells m_turns m_visits m_wasSo m_bestAway m_bestMade m_bestFault m_isHere m_place m_reason m_wide m_high) [some (.ref (a_t 0)), some (.int x6.1), some (.int x17.1), some (.int x17.2.1), some (.int x11.2.2.1), none, none] 108 []) hm (fun x17 hm => ?_) (fun j18 hj18 hm => ?_)
              ·
                refine w_iinc (pc := 108) hX dX8_build_108 rfl (Nat.le_of_ble_eq_true rfl) ic_1 ?_
                refine w_goto (pc := 111) (tgt := 30) hX dX8_build_111 (by decide) ?_
                exact w_lvs [true, true, true, true, true, false, false] (hself12 (x17.1, x17.2.1, x11.2.2.1 + (1 : Int32), x17.2.2.1, x17.2.2.2) hm)
              ·
                refine w_icmp_le (pc := 86) (tgt := 108) hX dX8_build_86 (by decide) hm (fun hm => ?_) (fun hm => ?_)
                ·
                  exact w_lvs [true, true, true, true, true, false, false] (hj18 (x11.1, x11.2.1, x11.2.2.2.1, x11.2.2.2.2) hm)
                ·
                  refine w_aload_n (pc := 89) hX dX8_build_89 rfl rfl ?_
                  refine w_iload (pc := 90) hX dX8_build_90 rfl ?_
                  refine w_iconst (pc := 92) hX dX8_build_92 ic_2 ?_
                  refine w_idiv (pc := 93) hX dX8_build_93 hm (fun hm => ?_)
                  refine w_iload (pc := 94) hX dX8_build_94 rfl ?_
                  obtain ⟨r19, hr19, hm⟩ := bnd hm
                  refine w_calldi (pc := 96) (ws' := wX8 G a_t x6.2.1 r1 m_kept m_isKept m_past m_states m_text m_length r19.2.1 r19.2.2 m_isOn m_steps m_wayCells m_turns m_visits m_wasSo m_bestAway m_bestMade m_bestFault m_isHere m_place m_reason m_wide m_high) (os := [some 0, some 1, some 2, some 3, some 4, some 5, some 6, some 7, some 8, some 9, some 10, some 11, some 12]) 13 hX [0, 1, 2, 3, 4, 5, 6, 7, 8, 9, 10, 11, 12] (runV (rest := []) hX [0, 1, 2, 3, 4, 5, 6, 7, 8, 9, 10, 11, 12] (ctX8_areJoined G F a_t x6.2.1 r1 m_kept m_isKept m_past m_states m_text m_length x11.2.2.2.1 x11.2.2.2.2 m_isOn m_steps m_wayCells m_turns m_visits m_wasSo m_bestAway m_bestMade m_bestFault m_isHere m_place m_reason m_wide m_high (x11.2.2.1 / (2 : Int32)) r14 r19 hr19) dX8_build_96 2 gX8_build_X8_areJoined rfl hyX8_areJoined ⟨Nat.le_of_ble_eq_true rfl, Nat.le_of_ble_eq_true rfl⟩ 0 rfl rfl rfl rfl (Nat.le_of_ble_eq_true rfl) ⟨Nat.le_of_ble_eq_true rfl, Nat.le_of_ble_eq_true rfl⟩ rfl (by decide +kernel)) rfl rfl rfl (by decide +kernel) rfl ⟨rfl, rfl⟩ ?_
                  refine w_if_ne (pc := 99) (tgt := 108) hX dX8_build_99 (by decide) hm (fun hm => ?_) (fun hm => ?_)
                  ·
                    exact w_lvs [true, true, true, true, true, false, false] (hj18 (x11.1, x11.2.1, r19.2.1, r19.2.2) hm)
                  ·
                    refine w_iload (pc := 102) hX dX8_build_102 rfl ?_
                    refine w_istore_n (pc := 104) hX dX8_build_104 rfl (Nat.le_of_ble_eq_true rfl) ?_
                    refine w_iload (pc := 105) hX dX8_build_105 rfl ?_
                    refine w_istore_n (pc := 107) hX dX8_build_107 rfl (Nat.le_of_ble_eq_true rfl) ?_
                    exact w_lvs [true, true, true, true, true, false, false] (hj18 (x11.2.2.1, x15, r19.2.1, r19.2.2) hm)
            ·
              refine w_if_ge (pc := 51) (tgt := 58) hX dX8_build_51 (by decide) hm (fun hm => ?_) (fun hm => ?_)
              ·
                refine w_aload_n (pc := 58) hX dX8_build_58 rfl rfl ?_
                refine gf_X8_s (pc := 59) hX dX8_build_59 hX8 (List.mem_of_getElem? (i := 1) rfl) 0 rfl rfl ?_
                refine w_bipush (pc := 62) hX dX8_build_62 bp_6 ?_
                refine w_iload (pc := 64) hX dX8_build_64 rfl ?_
                refine w_iconst (pc := 66) hX dX8_build_66 ic_2 ?_
                refine w_idiv (pc := 67) hX dX8_build_67 hm (fun hm => ?_)
                refine w_iadd (pc := 68) hX dX8_build_68 ?_
                refine w_iald (pc := 69) hX dX8_build_69 1 rfl hm (fun hm => ?_)
                refine w_aload_n (pc := 70) hX dX8_build_70 rfl rfl ?_
                refine gf_X8_s (pc := 71) hX dX8_build_71 hX8 (List.mem_of_getElem? (i := 1) rfl) 0 rfl rfl ?_
                refine w_bipush (pc := 74) hX dX8_build_74 bp_6 ?_
                refine w_iload (pc := 76) hX dX8_build_76 rfl ?_
                refine w_iadd (pc := 78) hX dX8_build_78 ?_
                refine w_iald (pc := 79) hX dX8_build_79 1 rfl hm (fun hm => ?_)
                refine w_iadd (pc := 80) hX dX8_build_80 ?_
                exact w_lvs [true, true, true, true, true, true, false] (hj16 ((x6.2.1 ((6 : Int32) + (x11.2.2.1 / (2 : Int32))).toNatClampNeg) + (x6.2.1 ((6 : Int32) + r14).toNatClampNeg)) hm)
              ·
                refine w_iconst (pc := 54) hX dX8_build_54 ic_m1 ?_
                refine w_goto (pc := 55) (tgt := 81) hX dX8_build_55 (by decide) ?_
                exact w_lvs [true, true, true, true, true, true, false] (hj16 (-1 : Int32) hm)
  ·
    refine w_bipush (pc := 11) hX dX8_build_11 bp_m2 ?_
    obtain rfl := som hm
    exact w_iret (pc := 13) hX hR dX8_build_13 ⟨rfl, rfl⟩

theorem lX8_exchange_X8 : ∀ w ∈ wsX80, w ∈ wsX8_exchange := in_at [85, 86, 87, 88, 89, 90, 91, 92, 93, 94, 95, 96, 97, 98, 99, 100, 101, 102, 103, 104, 105, 106, 107, 108] (by decide +kernel)
set_option maxHeartbeats 4000000 in
set_option maxRecDepth 100000 in
theorem ctX8_exchange (G : gT) (F : Nat) (a_t : Nat → Nat) (m_s : nF) (m_begun : nF) (m_kept : nF) (m_isKept : Int32) (m_past : nF) (m_states : Int32) (m_text : nF) (m_length : Int32) (m_far : nF) (m_queue : nF) (m_isOn : nF) (m_steps : nF) (m_wayCells : Int32) (m_turns : Int32) (m_visits : nF) (m_wasSo : nF) (m_bestAway : Int32) (m_bestMade : Int32) (m_bestFault : Int32) (m_isHere : nF) (m_place : Int32) (m_reason : Int32) (m_wide : Int32) (m_high : Int32) (o : (Int32 × nF × nF × nF × Int32 × nF × nF × nF × nF × Int32 × Int32 × Int32 × Int32 × Int32 × nF)) (hm : mX8_exchange F m_s m_begun m_past m_states m_far m_queue m_isOn m_steps m_wayCells m_turns m_bestAway m_bestMade m_bestFault m_isHere = some o) : CT G yX8_exchange wsX8_exchange rmX8_exchange [.ref (a_t 0)] (wX8 G a_t m_s m_begun m_kept m_isKept m_past m_states m_text m_length m_far m_queue m_isOn m_steps m_wayCells m_turns m_visits m_wasSo m_bestAway m_bestMade m_bestFault m_isHere m_place m_reason m_wide m_high) (fun v w => v = some (.int o.1) ∧ w = wX8 G a_t o.2.1 o.2.2.1 m_kept m_isKept o.2.2.2.1 o.2.2.2.2.1 m_text m_length o.2.2.2.2.2.1 o.2.2.2.2.2.2.1 o.2.2.2.2.2.2.2.1 o.2.2.2.2.2.2.2.2.1 o.2.2.2.2.2.2.2.2.2.1 o.2.2.2.2.2.2.2.2.2.2.1 m_visits m_wasSo o.2.2.2.2.2.2.2.2.2.2.2.1 o.2.2.2.2.2.2.2.2.2.2.2.2.1 o.2.2.2.2.2.2.2.2.2.2.2.2.2.1 o.2.2.2.2.2.2.2.2.2.2.2.2.2.2 m_place m_reason m_wide m_high) := by
  refine CT_of (cc := cX8_exchange) (maxL := 1) (ret := (some .int)) 0 (by decide +kernel) rfl rfl (cat_ok rfl) (fun X hX hR hN => ?_)
  have hX : Ok G X cX8_exchange RX8 wsX8_exchange 1 rmX8_exchange := hX
  have hX8 : ∀ w ∈ wsX80, w ∈ wsX8_exchange := lX8_exchange_X8
  unfold mX8_exchange at hm
  refine w_aload_n (pc := 0) hX dX8_exchange_0 rfl rfl ?_
  obtain ⟨r1, hr1, hm⟩ := bnd hm
  refine w_calldv (pc := 1) (ws' := wX8 G a_t m_s r1 m_kept m_isKept m_past m_states m_text m_length m_far m_queue m_isOn m_steps m_wayCells m_turns m_visits m_wasSo m_bestAway m_bestMade m_bestFault m_isHere m_place m_reason m_wide m_high) (os := [some 0, some 1, some 2, some 3, some 4, some 5, some 6, some 7, some 8, some 9, some 10, some 11, some 12]) 13 hX [0, 1, 2, 3, 4, 5, 6, 7, 8, 9, 10, 11, 12] (runV (rest := []) hX [0, 1, 2, 3, 4, 5, 6, 7, 8, 9, 10, 11, 12] (ctX8_begins G F a_t m_s m_begun m_kept m_isKept m_past m_states m_text m_length m_far m_queue m_isOn m_steps m_wayCells m_turns m_visits m_wasSo m_bestAway m_bestMade m_bestFault m_isHere m_place m_reason m_wide m_high r1 hr1) dX8_exchange_1 0 gX8_exchange_X8_begins rfl hyX8_begins ⟨Nat.le_of_ble_eq_true rfl, Nat.le_of_ble_eq_true rfl⟩ 0 rfl rfl rfl rfl (Nat.le_of_ble_eq_true rfl) ⟨Nat.le_of_ble_eq_true rfl, Nat.le_of_ble_eq_true rfl⟩ rfl (by decide +kernel)) rfl rfl rfl (by decide +kernel) rfl ⟨rfl, rfl⟩ ?_
  refine w_aload_n (pc := 4) hX dX8_exchange_4 rfl rfl ?_
  obtain ⟨r2, hr2, hm⟩ := bnd hm
  refine w_callpi (pc := 5) hX [0, 1, 2, 3, 4, 5, 6, 7, 8, 9, 10, 11, 12] (runV (rest := []) hX [0, 1, 2, 3, 4, 5, 6, 7, 8, 9, 10, 11, 12] (ctX8_isWhole G F a_t m_s r1 m_kept m_isKept m_past m_states m_text m_length m_far m_queue m_isOn m_steps m_wayCells m_turns m_visits m_wasSo m_bestAway m_bestMade m_bestFault m_isHere m_place m_reason m_wide m_high r2 hr2) dX8_exchange_5 0 gX8_exchange_X8_isWhole rfl hyX8_isWhole ⟨Nat.le_of_ble_eq_true rfl, Nat.le_of_ble_eq_true rfl⟩ 0 rfl rfl rfl rfl (Nat.le_of_ble_eq_true rfl) ⟨Nat.le_of_ble_eq_true rfl, Nat.le_of_ble_eq_true rfl⟩ rfl (by decide +kernel)) rfl ⟨rfl, rfl⟩ ?_
  refine w_if_ne (pc := 8) (tgt := 14) hX dX8_exchange_8 (by decide) hm (fun hm => ?_) (fun hm => ?_)
  ·
    refine w_aload_n (pc := 14) hX dX8_exchange_14 rfl rfl ?_
    obtain ⟨r3, hr3, hm⟩ := bnd hm
    refine w_calldv (pc := 15) (ws' := wX8 G a_t r3.1 r1 m_kept m_isKept m_past m_states m_text m_length r3.2.1 r3.2.2.1 r3.2.2.2.1 r3.2.2.2.2.1 r3.2.2.2.2.2.1 r3.2.2.2.2.2.2.1 m_visits m_wasSo r3.2.2.2.2.2.2.2.1 r3.2.2.2.2.2.2.2.2.1 r3.2.2.2.2.2.2.2.2.2.1 r3.2.2.2.2.2.2.2.2.2.2 m_place m_reason m_wide m_high) (os := [some 0, some 1, some 2, some 3, some 4, some 5, some 6, some 7, some 8, some 9, some 10, some 11, some 12]) 13 hX [0, 1, 2, 3, 4, 5, 6, 7, 8, 9, 10, 11, 12] (runV (rest := []) hX [0, 1, 2, 3, 4, 5, 6, 7, 8, 9, 10, 11, 12] (ctX8_looksForBest G F a_t m_s r1 m_kept m_isKept m_past m_states m_text m_length m_far m_queue m_isOn m_steps m_wayCells m_turns m_visits m_wasSo m_bestAway m_bestMade m_bestFault m_isHere m_place m_reason m_wide m_high r3 hr3) dX8_exchange_15 0 gX8_exchange_X8_looksForBest rfl hyX8_looksForBest ⟨Nat.le_of_ble_eq_true rfl, Nat.le_of_ble_eq_true rfl⟩ 0 rfl rfl rfl rfl (Nat.le_of_ble_eq_true rfl) ⟨Nat.le_of_ble_eq_true rfl, Nat.le_of_ble_eq_true rfl⟩ rfl (by decide +kernel)) rfl rfl rfl (by decide +kernel) rfl ⟨rfl, rfl⟩ ?_
    refine w_aload_n (pc := 18) hX dX8_exchange_18 rfl rfl ?_
    refine gf_X8_bestFault (pc := 19) hX dX8_exchange_19 hX8 (List.mem_of_getElem? (i := 1) rfl) 0 rfl rfl ?_
    refine w_aload_n (pc := 22) hX dX8_exchange_22 rfl rfl ?_
    obtain ⟨r4, hr4, hm⟩ := bnd hm
    refine w_calldi (pc := 23) (ws' := wX8 G a_t r3.1 r1 m_kept m_isKept m_past m_states m_text m_length r4.2.1 r4.2.2.1 r4.2.2.2.1 r4.2.2.2.2.1 r4.2.2.2.2.2.1 r4.2.2.2.2.2.2 m_visits m_wasSo r3.2.2.2.2.2.2.2.1 r3.2.2.2.2.2.2.2.2.1 r3.2.2.2.2.2.2.2.2.2.1 r3.2.2.2.2.2.2.2.2.2.2 m_place m_reason m_wide m_high) (os := [some 0, some 1, some 2, some 3, some 4, some 5, some 6, some 7, some 8, some 9, some 10, some 11, some 12]) 13 hX [0, 1, 2, 3, 4, 5, 6, 7, 8, 9, 10, 11, 12] (runV (rest := [.int r3.2.2.2.2.2.2.2.2.2.1]) hX [0, 1, 2, 3, 4, 5, 6, 7, 8, 9, 10, 11, 12] (ctX8_wayFault G F a_t r3.1 r1 m_kept m_isKept m_past m_states m_text m_length r3.2.1 r3.2.2.1 r3.2.2.2.1 r3.2.2.2.2.1 r3.2.2.2.2.2.1 r3.2.2.2.2.2.2.1 m_visits m_wasSo r3.2.2.2.2.2.2.2.1 r3.2.2.2.2.2.2.2.2.1 r3.2.2.2.2.2.2.2.2.2.1 r3.2.2.2.2.2.2.2.2.2.2 m_place m_reason m_wide m_high r4 hr4) dX8_exchange_23 0 gX8_exchange_X8_wayFault rfl hyX8_wayFault ⟨Nat.le_of_ble_eq_true rfl, Nat.le_of_ble_eq_true rfl⟩ 0 rfl rfl rfl rfl (Nat.le_of_ble_eq_true rfl) ⟨Nat.le_of_ble_eq_true rfl, Nat.le_of_ble_eq_true rfl⟩ rfl (by decide +kernel)) rfl rfl rfl (by decide +kernel) rfl ⟨rfl, rfl⟩ ?_
    refine w_icmp_lt (pc := 26) (tgt := 32) hX dX8_exchange_26 (by decide) hm (fun hm => ?_) (fun hm => ?_)
    ·
      refine w_aload_n (pc := 32) hX dX8_exchange_32 rfl rfl ?_
      obtain ⟨r5, hr5, hm⟩ := bnd hm
      refine w_calldv (pc := 33) (ws' := wX8 G a_t r5 r1 m_kept m_isKept m_past m_states m_text m_length r4.2.1 r4.2.2.1 r4.2.2.2.1 r4.2.2.2.2.1 r4.2.2.2.2.2.1 r4.2.2.2.2.2.2 m_visits m_wasSo r3.2.2.2.2.2.2.2.1 r3.2.2.2.2.2.2.2.2.1 r3.2.2.2.2.2.2.2.2.2.1 r3.2.2.2.2.2.2.2.2.2.2 m_place m_reason m_wide m_high) (os := [some 0, some 1, some 2, some 3, some 4, some 5, some 6, some 7, some 8, some 9, some 10, some 11, some 12]) 13 hX [0, 1, 2, 3, 4, 5, 6, 7, 8, 9, 10, 11, 12] (runV (rest := []) hX [0, 1, 2, 3, 4, 5, 6, 7, 8, 9, 10, 11, 12] (ctX8_exchanges G a_t r3.1 r1 m_kept m_isKept m_past m_states m_text m_length r4.2.1 r4.2.2.1 r4.2.2.2.1 r4.2.2.2.2.1 r4.2.2.2.2.2.1 r4.2.2.2.2.2.2 m_visits m_wasSo r3.2.2.2.2.2.2.2.1 r3.2.2.2.2.2.2.2.2.1 r3.2.2.2.2.2.2.2.2.2.1 r3.2.2.2.2.2.2.2.2.2.2 m_place m_reason m_wide m_high r5 hr5) dX8_exchange_33 0 gX8_exchange_X8_exchanges rfl hyX8_exchanges ⟨Nat.le_of_ble_eq_true rfl, Nat.le_of_ble_eq_true rfl⟩ 0 rfl rfl rfl rfl (Nat.le_of_ble_eq_true rfl) ⟨Nat.le_of_ble_eq_true rfl, Nat.le_of_ble_eq_true rfl⟩ rfl (by decide +kernel)) rfl rfl rfl (by decide +kernel) rfl ⟨rfl, rfl⟩ ?_
      refine w_aload_n (pc := 36) hX dX8_exchange_36 rfl rfl ?_
      refine w_aload_n (pc := 37) hX dX8_exchange_37 rfl rfl ?_
      obtain ⟨r6, hr6, hm⟩ := bnd hm
      refine w_calldi (pc := 38) (ws' := wX8 G a_t r5 r1 m_kept m_isKept m_past m_states m_text m_length r6.2.1 r6.2.2.1 r6.2.2.2.1 r6.2.2.2.2.1 r6.2.2.2.2.2.1 r6.2.2.2.2.2.2 m_visits m_wasSo r3.2.2.2.2.2.2.2.1 r3.2.2.2.2.2.2.2.2.1 r3.2.2.2.2.2.2.2.2.2.1 r3.2.2.2.2.2.2.2.2.2.2 m_place m_reason m_wide m_high) (os := [some 0, some 1, some 2, some 3, some 4, some 5, some 6, some 7, some 8, some 9, some 10, some 11, some 12]) 13 hX [0, 1, 2, 3, 4, 5, 6, 7, 8, 9, 10, 11, 12] (runV (rest := [.ref (a_t 0)]) hX [0, 1, 2, 3, 4, 5, 6, 7, 8, 9, 10, 11, 12] (ctX8_wayFault G F a_t r5 r1 m_kept m_isKept m_past m_states m_text m_length r4.2.1 r4.2.2.1 r4.2.2.2.1 r4.2.2.2.2.1 r4.2.2.2.2.2.1 r4.2.2.2.2.2.2 m_visits m_wasSo r3.2.2.2.2.2.2.2.1 r3.2.2.2.2.2.2.2.2.1 r3.2.2.2.2.2.2.2.2.2.1 r3.2.2.2.2.2.2.2.2.2.2 m_place m_reason m_wide m_high r6 hr6) dX8_exchange_38 0 gX8_exchange_X8_wayFault rfl hyX8_wayFault ⟨Nat.le_of_ble_eq_true rfl, Nat.le_of_ble_eq_true rfl⟩ 0 rfl rfl rfl rfl (Nat.le_of_ble_eq_true rfl) ⟨Nat.le_of_ble_eq_true rfl, Nat.le_of_ble_eq_true rfl⟩ rfl (by decide +kernel)) rfl rfl rfl (by decide +kernel) rfl ⟨rfl, rfl⟩ ?_
      obtain ⟨r7, hr7, hm⟩ := bnd hm
      refine w_calldi (pc := 41) (ws' := wX8 G a_t r7.2.1 r1 m_kept m_isKept r7.2.2.1 r7.2.2.2 m_text m_length r6.2.1 r6.2.2.1 r6.2.2.2.1 r6.2.2.2.2.1 r6.2.2.2.2.2.1 r6.2.2.2.2.2.2 m_visits m_wasSo r3.2.2.2.2.2.2.2.1 r3.2.2.2.2.2.2.2.2.1 r3.2.2.2.2.2.2.2.2.2.1 r3.2.2.2.2.2.2.2.2.2.2 m_place m_reason m_wide m_high) (os := [some 0, some 1, some 2, some 3, some 4, some 5, some 6, some 7, some 8, some 9, some 10, some 11, some 12]) 13 hX [0, 1, 2, 3, 4, 5, 6, 7, 8, 9, 10, 11, 12] (runV (rest := []) hX [0, 1, 2, 3, 4, 5, 6, 7, 8, 9, 10, 11, 12] (ctX8_acted G F a_t r5 r1 m_kept m_isKept m_past m_states m_text m_length r6.2.1 r6.2.2.1 r6.2.2.2.1 r6.2.2.2.2.1 r6.2.2.2.2.2.1 r6.2.2.2.2.2.2 m_visits m_wasSo r3.2.2.2.2.2.2.2.1 r3.2.2.2.2.2.2.2.2.1 r3.2.2.2.2.2.2.2.2.2.1 r3.2.2.2.2.2.2.2.2.2.2 m_place m_reason m_wide m_high r6.1 r7 hr7) dX8_exchange_41 1 gX8_exchange_X8_acted rfl hyX8_acted ⟨Nat.le_of_ble_eq_true rfl, Nat.le_of_ble_eq_true rfl⟩ 0 rfl rfl rfl rfl (Nat.le_of_ble_eq_true rfl) ⟨Nat.le_of_ble_eq_true rfl, Nat.le_of_ble_eq_true rfl⟩ rfl (by decide +kernel)) rfl rfl rfl (by decide +kernel) rfl ⟨rfl, rfl⟩ ?_
      obtain rfl := som hm
      exact w_iret (pc := 44) hX hR dX8_exchange_44 ⟨rfl, rfl⟩
    ·
      refine w_bipush (pc := 29) hX dX8_exchange_29 bp_m2 ?_
      obtain rfl := som hm
      exact w_iret (pc := 31) hX hR dX8_exchange_31 ⟨rfl, rfl⟩
  ·
    refine w_bipush (pc := 11) hX dX8_exchange_11 bp_m2 ?_
    obtain rfl := som hm
    exact w_iret (pc := 13) hX hR dX8_exchange_13 ⟨rfl, rfl⟩

theorem lX8_improve_X8 : ∀ w ∈ wsX80, w ∈ wsX8_improve := in_at [85, 86, 87, 88, 89, 90, 91, 92, 93, 94, 95, 96, 97, 98, 99, 100, 101, 102, 103, 104, 105, 106, 107, 108] (by decide +kernel)
set_option maxHeartbeats 4000000 in
set_option maxRecDepth 100000 in
theorem ctX8_improve (G : gT) (F : Nat) (a_t : Nat → Nat) (m_s : nF) (m_begun : nF) (m_kept : nF) (m_isKept : Int32) (m_past : nF) (m_states : Int32) (m_text : nF) (m_length : Int32) (m_far : nF) (m_queue : nF) (m_isOn : nF) (m_steps : nF) (m_wayCells : Int32) (m_turns : Int32) (m_visits : nF) (m_wasSo : nF) (m_bestAway : Int32) (m_bestMade : Int32) (m_bestFault : Int32) (m_isHere : nF) (m_place : Int32) (m_reason : Int32) (m_wide : Int32) (m_high : Int32) (o : (Int32 × nF × nF × nF × Int32 × nF × nF × nF × nF × Int32 × Int32 × Int32 × Int32 × Int32 × nF)) (hm : mX8_improve F m_s m_begun m_past m_states m_far m_queue m_isOn m_steps m_wayCells m_turns m_bestAway m_bestMade m_bestFault m_isHere = some o) : CT G yX8_improve wsX8_improve rmX8_improve [.ref (a_t 0)] (wX8 G a_t m_s m_begun m_kept m_isKept m_past m_states m_text m_length m_far m_queue m_isOn m_steps m_wayCells m_turns m_visits m_wasSo m_bestAway m_bestMade m_bestFault m_isHere m_place m_reason m_wide m_high) (fun v w => v = some (.int o.1) ∧ w = wX8 G a_t o.2.1 o.2.2.1 m_kept m_isKept o.2.2.2.1 o.2.2.2.2.1 m_text m_length o.2.2.2.2.2.1 o.2.2.2.2.2.2.1 o.2.2.2.2.2.2.2.1 o.2.2.2.2.2.2.2.2.1 o.2.2.2.2.2.2.2.2.2.1 o.2.2.2.2.2.2.2.2.2.2.1 m_visits m_wasSo o.2.2.2.2.2.2.2.2.2.2.2.1 o.2.2.2.2.2.2.2.2.2.2.2.2.1 o.2.2.2.2.2.2.2.2.2.2.2.2.2.1 o.2.2.2.2.2.2.2.2.2.2.2.2.2.2 m_place m_reason m_wide m_high) := by
  refine CT_of (cc := cX8_improve) (maxL := 2) (ret := (some .int)) 1 (by decide +kernel) rfl rfl (cat_ok rfl) (fun X hX hR hN => ?_)
  have hX : Ok G X cX8_improve RX8 wsX8_improve 2 rmX8_improve := hX
  have hX8 : ∀ w ∈ wsX80, w ∈ wsX8_improve := lX8_improve_X8
  unfold mX8_improve at hm
  refine w_aload_n (pc := 0) hX dX8_improve_0 rfl rfl ?_
  obtain ⟨r1, hr1, hm⟩ := bnd hm
  refine w_calldv (pc := 1) (ws' := wX8 G a_t m_s r1 m_kept m_isKept m_past m_states m_text m_length m_far m_queue m_isOn m_steps m_wayCells m_turns m_visits m_wasSo m_bestAway m_bestMade m_bestFault m_isHere m_place m_reason m_wide m_high) (os := [some 0, some 1, some 2, some 3, some 4, some 5, some 6, some 7, some 8, some 9, some 10, some 11, some 12]) 13 hX [0, 1, 2, 3, 4, 5, 6, 7, 8, 9, 10, 11, 12] (runV (rest := []) hX [0, 1, 2, 3, 4, 5, 6, 7, 8, 9, 10, 11, 12] (ctX8_begins G F a_t m_s m_begun m_kept m_isKept m_past m_states m_text m_length m_far m_queue m_isOn m_steps m_wayCells m_turns m_visits m_wasSo m_bestAway m_bestMade m_bestFault m_isHere m_place m_reason m_wide m_high r1 hr1) dX8_improve_1 0 gX8_improve_X8_begins rfl hyX8_begins ⟨Nat.le_of_ble_eq_true rfl, Nat.le_of_ble_eq_true rfl⟩ 0 rfl rfl rfl rfl (Nat.le_of_ble_eq_true rfl) ⟨Nat.le_of_ble_eq_true rfl, Nat.le_of_ble_eq_true rfl⟩ rfl (by decide +kernel)) rfl rfl rfl (by decide +kernel) rfl ⟨rfl, rfl⟩ ?_
  refine w_aload_n (pc := 4) hX dX8_improve_4 rfl rfl ?_
  obtain ⟨r2, hr2, hm⟩ := bnd hm
  refine w_callpi (pc := 5) hX [0, 1, 2, 3, 4, 5, 6, 7, 8, 9, 10, 11, 12] (runV (rest := []) hX [0, 1, 2, 3, 4, 5, 6, 7, 8, 9, 10, 11, 12] (ctX8_isWhole G F a_t m_s r1 m_kept m_isKept m_past m_states m_text m_length m_far m_queue m_isOn m_steps m_wayCells m_turns m_visits m_wasSo m_bestAway m_bestMade m_bestFault m_isHere m_place m_reason m_wide m_high r2 hr2) dX8_improve_5 0 gX8_improve_X8_isWhole rfl hyX8_isWhole ⟨Nat.le_of_ble_eq_true rfl, Nat.le_of_ble_eq_true rfl⟩ 0 rfl rfl rfl rfl (Nat.le_of_ble_eq_true rfl) ⟨Nat.le_of_ble_eq_true rfl, Nat.le_of_ble_eq_true rfl⟩ rfl (by decide +kernel)) rfl ⟨rfl, rfl⟩ ?_
  refine w_if_ne (pc := 8) (tgt := 14) hX dX8_improve_8 (by decide) hm (fun hm => ?_) (fun hm => ?_)
  ·
    refine w_iconst (pc := 14) hX dX8_improve_14 ic_0 ?_
    refine w_istore_n (pc := 15) hX dX8_improve_15 rfl (Nat.le_of_ble_eq_true rfl) ?_
    refine w_aload_n (pc := 16) hX dX8_improve_16 rfl rfl ?_
    obtain ⟨r3, hr3, hm⟩ := bnd hm
    refine w_calldv (pc := 17) (ws' := wX8 G a_t r3.1 r1 m_kept m_isKept m_past m_states m_text m_length r3.2.1 r3.2.2.1 r3.2.2.2.1 r3.2.2.2.2.1 r3.2.2.2.2.2.1 r3.2.2.2.2.2.2.1 m_visits m_wasSo r3.2.2.2.2.2.2.2.1 r3.2.2.2.2.2.2.2.2.1 r3.2.2.2.2.2.2.2.2.2.1 r3.2.2.2.2.2.2.2.2.2.2 m_place m_reason m_wide m_high) (os := [some 0, some 1, some 2, some 3, some 4, some 5, some 6, some 7, some 8, some 9, some 10, some 11, some 12]) 13 hX [0, 1, 2, 3, 4, 5, 6, 7, 8, 9, 10, 11, 12] (runV (rest := []) hX [0, 1, 2, 3, 4, 5, 6, 7, 8, 9, 10, 11, 12] (ctX8_looksForBest G F a_t m_s r1 m_kept m_isKept m_past m_states m_text m_length m_far m_queue m_isOn m_steps m_wayCells m_turns m_visits m_wasSo m_bestAway m_bestMade m_bestFault m_isHere m_place m_reason m_wide m_high r3 hr3) dX8_improve_17 0 gX8_improve_X8_looksForBest rfl hyX8_looksForBest ⟨Nat.le_of_ble_eq_true rfl, Nat.le_of_ble_eq_true rfl⟩ 0 rfl rfl rfl rfl (Nat.le_of_ble_eq_true rfl) ⟨Nat.le_of_ble_eq_true rfl, Nat.le_of_ble_eq_true rfl⟩ rfl (by decide +kernel)) rfl rfl rfl (by decide +kernel) rfl ⟨rfl, rfl⟩ ?_
    refine w_jn (T := fun x4 : (Int32 × nF × nF × nF × nF × nF × Int32 × Int32 × Int32 × Int32 × Int32 × nF) => WW G X 0 0 (wX8 G a_t x4.2.1 r1 m_kept m_isKept m_past m_states m_text m_length x4.2.2.1 x4.2.2.2.1 x4.2.2.2.2.1 x4.2.2.2.2.2.1 x4.2.2.2.2.2.2.1 x4.2.2.2.2.2.2.2.1 m_visits m_wasSo x4.2.2.2.2.2.2.2.2.1 x4.2.2.2.2.2.2.2.2.2.1 x4.2.2.2.2.2.2.2.2.2.2.1 x4.2.2.2.2.2.2.2.2.2.2.2 m_place m_reason m_wide m_high) [some (.ref (a_t 0)), some (.int x4.1)] 45 []) hm (fun x4 hm => ?_) (fun j5 hj5 hm => ?_)
    ·
      unfold mX8_improve_K45 at hm
      refine w_aload_n (pc := 45) hX dX8_improve_45 rfl rfl ?_
      refine w_iload_n (pc := 46) hX dX8_improve_46 rfl rfl ?_
      obtain ⟨r6, hr6, hm⟩ := bnd hm
      refine w_calldi (pc := 47) (ws' := wX8 G a_t r6.2.1 r1 m_kept m_isKept r6.2.2.1 r6.2.2.2 m_text m_length x4.2.2.1 x4.2.2.2.1 x4.2.2.2.2.1 x4.2.2.2.2.2.1 x4.2.2.2.2.2.2.1 x4.2.2.2.2.2.2.2.1 m_visits m_wasSo x4.2.2.2.2.2.2.2.2.1 x4.2.2.2.2.2.2.2.2.2.1 x4.2.2.2.2.2.2.2.2.2.2.1 x4.2.2.2.2.2.2.2.2.2.2.2 m_place m_reason m_wide m_high) (os := [some 0, some 1, some 2, some 3, some 4, some 5, some 6, some 7, some 8, some 9, some 10, some 11, some 12]) 13 hX [0, 1, 2, 3, 4, 5, 6, 7, 8, 9, 10, 11, 12] (runV (rest := []) hX [0, 1, 2, 3, 4, 5, 6, 7, 8, 9, 10, 11, 12] (ctX8_acted G F a_t x4.2.1 r1 m_kept m_isKept m_past m_states m_text m_length x4.2.2.1 x4.2.2.2.1 x4.2.2.2.2.1 x4.2.2.2.2.2.1 x4.2.2.2.2.2.2.1 x4.2.2.2.2.2.2.2.1 m_visits m_wasSo x4.2.2.2.2.2.2.2.2.1 x4.2.2.2.2.2.2.2.2.2.1 x4.2.2.2.2.2.2.2.2.2.2.1 x4.2.2.2.2.2.2.2.2.2.2.2 m_place m_reason m_wide m_high x4.1 r6 hr6) dX8_improve_47 1 gX8_improve_X8_acted rfl hyX8_acted ⟨Nat.le_of_ble_eq_true rfl, Nat.le_of_ble_eq_true rfl⟩ 0 rfl rfl rfl rfl (Nat.le_of_ble_eq_true rfl) ⟨Nat.le_of_ble_eq_true rfl, Nat.le_of_ble_eq_true rfl⟩ rfl (by decide +kernel)) rfl rfl rfl (by decide +kernel) rfl ⟨rfl, rfl⟩ ?_
      obtain rfl := som hm
      exact w_iret (pc := 50) hX hR dX8_improve_50 ⟨rfl, rfl⟩
    ·
      refine w_lvs [true, true] ?_
      refine lpr_ind (T := fun x7 : (Int32 × nF × nF × nF × nF × nF × Int32 × Int32 × Int32 × Int32 × Int32 × nF) => WW G X 0 0 (wX8 G a_t x7.2.1 r1 m_kept m_isKept m_past m_states m_text m_length x7.2.2.1 x7.2.2.2.1 x7.2.2.2.2.1 x7.2.2.2.2.2.1 x7.2.2.2.2.2.2.1 x7.2.2.2.2.2.2.2.1 m_visits m_wasSo x7.2.2.2.2.2.2.2.2.1 x7.2.2.2.2.2.2.2.2.2.1 x7.2.2.2.2.2.2.2.2.2.2.1 x7.2.2.2.2.2.2.2.2.2.2.2 m_place m_reason m_wide m_high) [some (.ref (a_t 0)), some (.int x7.1)] 20 []) (fun self8 hself8 x7 hm => ?_) F ((0 : Int32), r3.1, r3.2.1, r3.2.2.1, r3.2.2.2.1, r3.2.2.2.2.1, r3.2.2.2.2.2.1, r3.2.2.2.2.2.2.1, r3.2.2.2.2.2.2.2.1, r3.2.2.2.2.2.2.2.2.1, r3.2.2.2.2.2.2.2.2.2.1, r3.2.2.2.2.2.2.2.2.2.2) hm
      unfold mX8_improve_L20 at hm
      refine w_aload_n (pc := 20) hX dX8_improve_20 rfl rfl ?_
      refine gf_X8_bestFault (pc := 21) hX dX8_improve_21 hX8 (List.mem_of_getElem? (i := 1) rfl) 0 rfl rfl ?_
      refine w_aload_n (pc := 24) hX dX8_improve_24 rfl rfl ?_
      obtain ⟨r9, hr9, hm⟩ := bnd hm
      refine w_calldi (pc := 25) (ws' := wX8 G a_t x7.2.1 r1 m_kept m_isKept m_past m_states m_text m_length r9.2.1 r9.2.2.1 r9.2.2.2.1 r9.2.2.2.2.1 r9.2.2.2.2.2.1 r9.2.2.2.2.2.2 m_visits m_wasSo x7.2.2.2.2.2.2.2.2.1 x7.2.2.2.2.2.2.2.2.2.1 x7.2.2.2.2.2.2.2.2.2.2.1 x7.2.2.2.2.2.2.2.2.2.2.2 m_place m_reason m_wide m_high) (os := [some 0, some 1, some 2, some 3, some 4, some 5, some 6, some 7, some 8, some 9, some 10, some 11, some 12]) 13 hX [0, 1, 2, 3, 4, 5, 6, 7, 8, 9, 10, 11, 12] (runV (rest := [.int x7.2.2.2.2.2.2.2.2.2.2.1]) hX [0, 1, 2, 3, 4, 5, 6, 7, 8, 9, 10, 11, 12] (ctX8_wayFault G F a_t x7.2.1 r1 m_kept m_isKept m_past m_states m_text m_length x7.2.2.1 x7.2.2.2.1 x7.2.2.2.2.1 x7.2.2.2.2.2.1 x7.2.2.2.2.2.2.1 x7.2.2.2.2.2.2.2.1 m_visits m_wasSo x7.2.2.2.2.2.2.2.2.1 x7.2.2.2.2.2.2.2.2.2.1 x7.2.2.2.2.2.2.2.2.2.2.1 x7.2.2.2.2.2.2.2.2.2.2.2 m_place m_reason m_wide m_high r9 hr9) dX8_improve_25 0 gX8_improve_X8_wayFault rfl hyX8_wayFault ⟨Nat.le_of_ble_eq_true rfl, Nat.le_of_ble_eq_true rfl⟩ 0 rfl rfl rfl rfl (Nat.le_of_ble_eq_true rfl) ⟨Nat.le_of_ble_eq_true rfl, Nat.le_of_ble_eq_true rfl⟩ rfl (by decide +kernel)) rfl rfl rfl (by decide +kernel) rfl ⟨rfl, rfl⟩ ?_
      refine w_icmp_ge (pc := 28) (tgt := 45) hX dX8_improve_28 (by decide) hm (fun hm => ?_) (fun hm => ?_)
      ·
        exact w_lvs [true, true] (hj5 (x7.1, x7.2.1, r9.2.1, r9.2.2.1, r9.2.2.2.1, r9.2.2.2.2.1, r9.2.2.2.2.2.1, r9.2.2.2.2.2.2, x7.2.2.2.2.2.2.2.2.1, x7.2.2.2.2.2.2.2.2.2.1, x7.2.2.2.2.2.2.2.2.2.2.1, x7.2.2.2.2.2.2.2.2.2.2.2) hm)
      ·
        refine w_aload_n (pc := 31) hX dX8_improve_31 rfl rfl ?_
        obtain ⟨r10, hr10, hm⟩ := bnd hm
        refine w_calldv (pc := 32) (ws' := wX8 G a_t r10 r1 m_kept m_isKept m_past m_states m_text m_length r9.2.1 r9.2.2.1 r9.2.2.2.1 r9.2.2.2.2.1 r9.2.2.2.2.2.1 r9.2.2.2.2.2.2 m_visits m_wasSo x7.2.2.2.2.2.2.2.2.1 x7.2.2.2.2.2.2.2.2.2.1 x7.2.2.2.2.2.2.2.2.2.2.1 x7.2.2.2.2.2.2.2.2.2.2.2 m_place m_reason m_wide m_high) (os := [some 0, some 1, some 2, some 3, some 4, some 5, some 6, some 7, some 8, some 9, some 10, some 11, some 12]) 13 hX [0, 1, 2, 3, 4, 5, 6, 7, 8, 9, 10, 11, 12] (runV (rest := []) hX [0, 1, 2, 3, 4, 5, 6, 7, 8, 9, 10, 11, 12] (ctX8_exchanges G a_t x7.2.1 r1 m_kept m_isKept m_past m_states m_text m_length r9.2.1 r9.2.2.1 r9.2.2.2.1 r9.2.2.2.2.1 r9.2.2.2.2.2.1 r9.2.2.2.2.2.2 m_visits m_wasSo x7.2.2.2.2.2.2.2.2.1 x7.2.2.2.2.2.2.2.2.2.1 x7.2.2.2.2.2.2.2.2.2.2.1 x7.2.2.2.2.2.2.2.2.2.2.2 m_place m_reason m_wide m_high r10 hr10) dX8_improve_32 0 gX8_improve_X8_exchanges rfl hyX8_exchanges ⟨Nat.le_of_ble_eq_true rfl, Nat.le_of_ble_eq_true rfl⟩ 0 rfl rfl rfl rfl (Nat.le_of_ble_eq_true rfl) ⟨Nat.le_of_ble_eq_true rfl, Nat.le_of_ble_eq_true rfl⟩ rfl (by decide +kernel)) rfl rfl rfl (by decide +kernel) rfl ⟨rfl, rfl⟩ ?_
        refine w_iinc (pc := 35) hX dX8_improve_35 rfl (Nat.le_of_ble_eq_true rfl) ic_1 ?_
        refine w_aload_n (pc := 38) hX dX8_improve_38 rfl rfl ?_
        obtain ⟨r11, hr11, hm⟩ := bnd hm
        refine w_calldv (pc := 39) (ws' := wX8 G a_t r11.1 r1 m_kept m_isKept m_past m_states m_text m_length r11.2.1 r11.2.2.1 r11.2.2.2.1 r11.2.2.2.2.1 r11.2.2.2.2.2.1 r11.2.2.2.2.2.2.1 m_visits m_wasSo r11.2.2.2.2.2.2.2.1 r11.2.2.2.2.2.2.2.2.1 r11.2.2.2.2.2.2.2.2.2.1 r11.2.2.2.2.2.2.2.2.2.2 m_place m_reason m_wide m_high) (os := [some 0, some 1, some 2, some 3, some 4, some 5, some 6, some 7, some 8, some 9, some 10, some 11, some 12]) 13 hX [0, 1, 2, 3, 4, 5, 6, 7, 8, 9, 10, 11, 12] (runV (rest := []) hX [0, 1, 2, 3, 4, 5, 6, 7, 8, 9, 10, 11, 12] (ctX8_looksForBest G F a_t r10 r1 m_kept m_isKept m_past m_states m_text m_length r9.2.1 r9.2.2.1 r9.2.2.2.1 r9.2.2.2.2.1 r9.2.2.2.2.2.1 r9.2.2.2.2.2.2 m_visits m_wasSo x7.2.2.2.2.2.2.2.2.1 x7.2.2.2.2.2.2.2.2.2.1 x7.2.2.2.2.2.2.2.2.2.2.1 x7.2.2.2.2.2.2.2.2.2.2.2 m_place m_reason m_wide m_high r11 hr11) dX8_improve_39 0 gX8_improve_X8_looksForBest rfl hyX8_looksForBest ⟨Nat.le_of_ble_eq_true rfl, Nat.le_of_ble_eq_true rfl⟩ 0 rfl rfl rfl rfl (Nat.le_of_ble_eq_true rfl) ⟨Nat.le_of_ble_eq_true rfl, Nat.le_of_ble_eq_true rfl⟩ rfl (by decide +kernel)) rfl rfl rfl (by decide +kernel) rfl ⟨rfl, rfl⟩ ?_
        refine w_goto (pc := 42) (tgt := 20) hX dX8_improve_42 (by decide) ?_
        exact w_lvs [true, true] (hself8 (x7.1 + (1 : Int32), r11.1, r11.2.1, r11.2.2.1, r11.2.2.2.1, r11.2.2.2.2.1, r11.2.2.2.2.2.1, r11.2.2.2.2.2.2.1, r11.2.2.2.2.2.2.2.1, r11.2.2.2.2.2.2.2.2.1, r11.2.2.2.2.2.2.2.2.2.1, r11.2.2.2.2.2.2.2.2.2.2) hm)
  ·
    refine w_bipush (pc := 11) hX dX8_improve_11 bp_m2 ?_
    obtain rfl := som hm
    exact w_iret (pc := 13) hX hR dX8_improve_13 ⟨rfl, rfl⟩
