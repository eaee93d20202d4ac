/-! WALKS, printed by wip/whole/gen.py -/
set_option maxHeartbeats 4000000 in
set_option maxRecDepth 100000 in
theorem ctX8_parts (G : gT) (F : Nat) (a_t : Nat → Nat) (m_s : nF) (m_begun : nF) (m_kept : nF) (m_isKept : Int32) (m_past : nF) (m_states : Int32) (m_text : nF) (m_length : Int32) (m_far : nF) (m_queue : nF) (m_isOn : nF) (m_steps : nF) (m_wayCells : Int32) (m_turns : Int32) (m_visits : nF) (m_wasSo : nF) (m_bestAway : Int32) (m_bestMade : Int32) (m_bestFault : Int32) (m_isHere : nF) (m_place : Int32) (m_reason : Int32) (m_wide : Int32) (m_high : Int32) (o : Int32) (hm : mX8_parts F m_s = some o) : CT G yX8_parts wsX8_parts rmX8_parts [.ref (a_t 0)] (wX8 G a_t m_s m_begun m_kept m_isKept m_past m_states m_text m_length m_far m_queue m_isOn m_steps m_wayCells m_turns m_visits m_wasSo m_bestAway m_bestMade m_bestFault m_isHere m_place m_reason m_wide m_high) (fun v w => v = some (.int o) ∧ w = wX8 G a_t m_s m_begun m_kept m_isKept m_past m_states m_text m_length m_far m_queue m_isOn m_steps m_wayCells m_turns m_visits m_wasSo m_bestAway m_bestMade m_bestFault m_isHere m_place m_reason m_wide m_high) := by
  refine CT_of (cc := cX8_parts) (maxL := 1) (ret := (some .int)) 0 (by decide +kernel) rfl rfl (cat_ok rfl) (fun X hX hR hN => ?_)
  have hX : Ok G X cX8_parts RX8 wsX8_parts 1 rmX8_parts := hX
  unfold mX8_parts at hm
  refine w_aload_n (pc := 0) hX dX8_parts_0 rfl rfl ?_
  obtain ⟨r1, hr1, hm⟩ := bnd hm
  refine w_callpi (pc := 1) hX [0, 1, 2, 3, 4, 5, 6, 7, 8, 9, 10, 11, 12] (runV (rest := []) hX [0, 1, 2, 3, 4, 5, 6, 7, 8, 9, 10, 11, 12] (ctX8_cells G a_t m_s m_begun m_kept m_isKept m_past m_states m_text m_length m_far m_queue m_isOn m_steps m_wayCells m_turns m_visits m_wasSo m_bestAway m_bestMade m_bestFault m_isHere m_place m_reason m_wide m_high r1 hr1) dX8_parts_1 0 gX8_parts_X8_cells rfl hyX8_cells ⟨Nat.le_of_ble_eq_true rfl, Nat.le_of_ble_eq_true rfl⟩ 0 rfl rfl rfl rfl (Nat.le_of_ble_eq_true rfl) ⟨Nat.le_of_ble_eq_true rfl, Nat.le_of_ble_eq_true rfl⟩ rfl (by decide +kernel)) rfl ⟨rfl, rfl⟩ ?_
  refine w_aload_n (pc := 4) hX dX8_parts_4 rfl rfl ?_
  obtain ⟨r2, hr2, hm⟩ := bnd hm
  refine w_callpi (pc := 5) hX [0, 1, 2, 3, 4, 5, 6, 7, 8, 9, 10, 11, 12] (runV (rest := [.int r1]) hX [0, 1, 2, 3, 4, 5, 6, 7, 8, 9, 10, 11, 12] (ctX8_passages G F a_t m_s m_begun m_kept m_isKept m_past m_states m_text m_length m_far m_queue m_isOn m_steps m_wayCells m_turns m_visits m_wasSo m_bestAway m_bestMade m_bestFault m_isHere m_place m_reason m_wide m_high r2 hr2) dX8_parts_5 0 gX8_parts_X8_passages rfl hyX8_passages ⟨Nat.le_of_ble_eq_true rfl, Nat.le_of_ble_eq_true rfl⟩ 0 rfl rfl rfl rfl (Nat.le_of_ble_eq_true rfl) ⟨Nat.le_of_ble_eq_true rfl, Nat.le_of_ble_eq_true rfl⟩ rfl (by decide +kernel)) rfl ⟨rfl, rfl⟩ ?_
  refine w_isub (pc := 8) hX dX8_parts_8 ?_
  obtain rfl := som hm
  exact w_iret (pc := 9) hX hR dX8_parts_9 ⟨rfl, rfl⟩

set_option maxHeartbeats 4000000 in
set_option maxRecDepth 100000 in
theorem ctX8_isWhole (G : gT) (F : Nat) (a_t : Nat → Nat) (m_s : nF) (m_begun : nF) (m_kept : nF) (m_isKept : Int32) (m_past : nF) (m_states : Int32) (m_text : nF) (m_length : Int32) (m_far : nF) (m_queue : nF) (m_isOn : nF) (m_steps : nF) (m_wayCells : Int32) (m_turns : Int32) (m_visits : nF) (m_wasSo : nF) (m_bestAway : Int32) (m_bestMade : Int32) (m_bestFault : Int32) (m_isHere : nF) (m_place : Int32) (m_reason : Int32) (m_wide : Int32) (m_high : Int32) (o : Int32) (hm : mX8_isWhole F m_s = some o) : CT G yX8_isWhole wsX8_isWhole rmX8_isWhole [.ref (a_t 0)] (wX8 G a_t m_s m_begun m_kept m_isKept m_past m_states m_text m_length m_far m_queue m_isOn m_steps m_wayCells m_turns m_visits m_wasSo m_bestAway m_bestMade m_bestFault m_isHere m_place m_reason m_wide m_high) (fun v w => v = some (.int o) ∧ w = wX8 G a_t m_s m_begun m_kept m_isKept m_past m_states m_text m_length m_far m_queue m_isOn m_steps m_wayCells m_turns m_visits m_wasSo m_bestAway m_bestMade m_bestFault m_isHere m_place m_reason m_wide m_high) := by
  refine CT_of (cc := cX8_isWhole) (maxL := 1) (ret := (some .boolean)) 0 (by decide +kernel) rfl rfl (cat_ok rfl) (fun X hX hR hN => ?_)
  have hX : Ok G X cX8_isWhole RX8 wsX8_isWhole 1 rmX8_isWhole := hX
  unfold mX8_isWhole at hm
  refine w_aload_n (pc := 0) hX dX8_isWhole_0 rfl rfl ?_
  obtain ⟨r1, hr1, hm⟩ := bnd hm
  refine w_callpi (pc := 1) hX [0, 1, 2, 3, 4, 5, 6, 7, 8, 9, 10, 11, 12] (runV (rest := []) hX [0, 1, 2, 3, 4, 5, 6, 7, 8, 9, 10, 11, 12] (ctX8_parts G F a_t m_s m_begun m_kept m_isKept m_past m_states m_text m_length m_far m_queue m_isOn m_steps m_wayCells m_turns m_visits m_wasSo m_bestAway m_bestMade m_bestFault m_isHere m_place m_reason m_wide m_high r1 hr1) dX8_isWhole_1 0 gX8_isWhole_X8_parts rfl hyX8_parts ⟨Nat.le_of_ble_eq_true rfl, Nat.le_of_ble_eq_true rfl⟩ 0 rfl rfl rfl rfl (Nat.le_of_ble_eq_true rfl) ⟨Nat.le_of_ble_eq_true rfl, Nat.le_of_ble_eq_true rfl⟩ rfl (by decide +kernel)) rfl ⟨rfl, rfl⟩ ?_
  refine w_iconst (pc := 4) hX dX8_isWhole_4 ic_1 ?_
  refine w_jn (T := fun x2 : Int32 => WW G X 0 0 (wX8 G a_t m_s m_begun m_kept m_isKept m_past m_states m_text m_length m_far m_queue m_isOn m_steps m_wayCells m_turns m_visits m_wasSo m_bestAway m_bestMade m_bestFault m_isHere m_place m_reason m_wide m_high) [none] 13 [.int x2]) hm (fun x2 hm => ?_) (fun j3 hj3 hm => ?_)
  ·
    refine w_zret (pc := 13) hX hR dX8_isWhole_13 hm (fun hm => ?_)
    obtain rfl := som hm
    exact ⟨rfl, rfl⟩
  ·
    refine w_icmp_ne (pc := 5) (tgt := 12) hX dX8_isWhole_5 (by decide) hm (fun hm => ?_) (fun hm => ?_)
    ·
      refine w_iconst (pc := 12) hX dX8_isWhole_12 ic_0 ?_
      exact w_lvs [false] (hj3 (0 : Int32) hm)
    ·
      refine w_iconst (pc := 8) hX dX8_isWhole_8 ic_1 ?_
      refine w_goto (pc := 9) (tgt := 13) hX dX8_isWhole_9 (by decide) ?_
      exact w_lvs [false] (hj3 (1 : Int32) hm)

theorem lX8_findsWay_X8 : ∀ w ∈ wsX80, w ∈ wsX8_findsWay := in_at [29, 30, 31, 32, 33, 34, 35, 36, 37, 38, 39, 40, 41, 42, 43, 44, 45, 46, 47, 48, 49, 50, 51, 52] (by decide +kernel)
set_option maxHeartbeats 4000000 in
set_option maxRecDepth 100000 in
theorem ctX8_findsWay (G : gT) (F : Nat) (a_t : Nat → Nat) (m_s : nF) (m_begun : nF) (m_kept : nF) (m_isKept : Int32) (m_past : nF) (m_states : Int32) (m_text : nF) (m_length : Int32) (m_far : nF) (m_queue : nF) (m_isOn : nF) (m_steps : nF) (m_wayCells : Int32) (m_turns : Int32) (m_visits : nF) (m_wasSo : nF) (m_bestAway : Int32) (m_bestMade : Int32) (m_bestFault : Int32) (m_isHere : nF) (m_place : Int32) (m_reason : Int32) (m_wide : Int32) (m_high : Int32) (g1 : Int32) (o : (Int32 × nF × nF × nF × nF × Int32 × Int32)) (hm : mX8_findsWay F m_s m_far m_queue m_isOn m_steps m_wayCells m_turns g1 = some o) : CT G yX8_findsWay wsX8_findsWay rmX8_findsWay [.ref (a_t 0), .int g1] (wX8 G a_t m_s m_begun m_kept m_isKept m_past m_states m_text m_length m_far m_queue m_isOn m_steps m_wayCells m_turns m_visits m_wasSo m_bestAway m_bestMade m_bestFault m_isHere m_place m_reason m_wide m_high) (fun v w => v = some (.int o.1) ∧ w = wX8 G a_t m_s m_begun m_kept m_isKept m_past m_states m_text m_length o.2.1 o.2.2.1 o.2.2.2.1 o.2.2.2.2.1 o.2.2.2.2.2.1 o.2.2.2.2.2.2 m_visits m_wasSo m_bestAway m_bestMade m_bestFault m_isHere m_place m_reason m_wide m_high) := by
  refine CT_of (cc := cX8_findsWay) (maxL := 6) (ret := (some .boolean)) 4 (by decide +kernel) rfl rfl (cat_ok rfl) (fun X hX hR hN => ?_)
  have hX : Ok G X cX8_findsWay RX8 wsX8_findsWay 6 rmX8_findsWay := hX
  have hX8 : ∀ w ∈ wsX80, w ∈ wsX8_findsWay := lX8_findsWay_X8
  unfold mX8_findsWay at hm
  refine w_iconst (pc := 0) hX dX8_findsWay_0 ic_0 ?_
  refine w_istore_n (pc := 1) hX dX8_findsWay_1 rfl (Nat.le_of_ble_eq_true rfl) ?_
  refine w_jn (T := fun x1 : nF => WW G X 0 0 (wX8 G a_t m_s m_begun m_kept m_isKept m_past m_states m_text m_length m_far m_queue x1 m_steps m_wayCells m_turns m_visits m_wasSo m_bestAway m_bestMade m_bestFault m_isHere m_place m_reason m_wide m_high) [some (.ref (a_t 0)), some (.int g1), none, none, none, none] 23 []) hm (fun x1 hm => ?_) (fun j2 hj2 hm => ?_)
  ·
    unfold mX8_findsWay_K23 at hm
    refine w_aload_n (pc := 23) hX dX8_findsWay_23 rfl rfl ?_
    refine w_iconst (pc := 24) hX dX8_findsWay_24 ic_0 ?_
    refine pf_X8_wayCells (pc := 25) hX dX8_findsWay_25 hX8 (List.mem_of_getElem? (i := 2) rfl) 0 rfl rfl ?_
    refine w_aload_n (pc := 28) hX dX8_findsWay_28 rfl rfl ?_
    refine w_iconst (pc := 29) hX dX8_findsWay_29 ic_0 ?_
    refine pf_X8_turns (pc := 30) hX dX8_findsWay_30 hX8 (List.mem_of_getElem? (i := 3) rfl) 0 rfl rfl ?_
    refine w_aload_n (pc := 33) hX dX8_findsWay_33 rfl rfl ?_
    refine w_iload_n (pc := 34) hX dX8_findsWay_34 rfl rfl ?_
    obtain ⟨r3, hr3, hm⟩ := bnd hm
    refine w_calldv (pc := 35) (ws' := wX8 G a_t m_s m_begun m_kept m_isKept m_past m_states m_text m_length r3.1 r3.2 x1 m_steps (0 : Int32) (0 : Int32) m_visits m_wasSo m_bestAway m_bestMade m_bestFault m_isHere m_place m_reason m_wide m_high) (os := [some 0, some 1, some 2, some 3, some 4, some 5, some 6, some 7, some 8, some 9, some 10, some 11, some 12]) 13 hX [0, 1, 2, 3, 4, 5, 6, 7, 8, 9, 10, 11, 12] (runV (rest := []) hX [0, 1, 2, 3, 4, 5, 6, 7, 8, 9, 10, 11, 12] (ctX8_measures G F a_t m_s m_begun m_kept m_isKept m_past m_states m_text m_length m_far m_queue x1 m_steps (0 : Int32) (0 : Int32) m_visits m_wasSo m_bestAway m_bestMade m_bestFault m_isHere m_place m_reason m_wide m_high g1 r3 hr3) dX8_findsWay_35 1 gX8_findsWay_X8_measures rfl hyX8_measures ⟨Nat.le_of_ble_eq_true rfl, Nat.le_of_ble_eq_true rfl⟩ 0 rfl rfl rfl rfl (Nat.le_of_ble_eq_true rfl) ⟨Nat.le_of_ble_eq_true rfl, Nat.le_of_ble_eq_true rfl⟩ rfl (by decide +kernel)) rfl rfl rfl (by decide +kernel) rfl ⟨rfl, rfl⟩ ?_
    refine w_aload_n (pc := 38) hX dX8_findsWay_38 rfl rfl ?_
    refine gf_X8_s (pc := 39) hX dX8_findsWay_39 hX8 (List.mem_of_getElem? (i := 4) rfl) 0 rfl rfl ?_
    refine w_iconst (pc := 42) hX dX8_findsWay_42 ic_2 ?_
    refine w_iald (pc := 43) hX dX8_findsWay_43 1 rfl hm (fun hm => ?_)
    refine w_istore_n (pc := 44) hX dX8_findsWay_44 rfl (Nat.le_of_ble_eq_true rfl) ?_
    refine w_aload_n (pc := 45) hX dX8_findsWay_45 rfl rfl ?_
    refine gf_X8_far (pc := 46) hX dX8_findsWay_46 hX8 (List.mem_of_getElem? (i := 5) rfl) 0 rfl rfl ?_
    refine w_iload_n (pc := 49) hX dX8_findsWay_49 rfl rfl ?_
    refine w_iald (pc := 50) hX dX8_findsWay_50 6 rfl hm (fun hm => ?_)
    refine w_if_ge (pc := 51) (tgt := 56) hX dX8_findsWay_51 (by decide) hm (fun hm => ?_) (fun hm => ?_)
    ·
      refine w_iconst (pc := 56) hX dX8_findsWay_56 ic_m1 ?_
      refine w_istore_n (pc := 57) hX dX8_findsWay_57 rfl (Nat.le_of_ble_eq_true rfl) ?_
      refine w_aload_n (pc := 58) hX dX8_findsWay_58 rfl rfl ?_
      refine gf_X8_isOn (pc := 59) hX dX8_findsWay_59 hX8 (List.mem_of_getElem? (i := 1) rfl) 0 rfl rfl ?_
      refine w_iload_n (pc := 62) hX dX8_findsWay_62 rfl rfl ?_
      refine w_iconst (pc := 63) hX dX8_findsWay_63 ic_1 ?_
      refine w_zast (pc := 64) hX dX8_findsWay_64 8 rfl hm (fun hm => ?_)
      refine w_aload_n (pc := 65) hX dX8_findsWay_65 rfl rfl ?_
      refine gf_X8_steps (pc := 66) hX dX8_findsWay_66 hX8 (List.mem_of_getElem? (i := 6) rfl) 0 rfl rfl ?_
      refine w_iconst (pc := 69) hX dX8_findsWay_69 ic_0 ?_
      refine w_iload_n (pc := 70) hX dX8_findsWay_70 rfl rfl ?_
      refine w_iast (pc := 71) hX dX8_findsWay_71 9 rfl hm (fun hm => ?_)
      refine w_aload_n (pc := 72) hX dX8_findsWay_72 rfl rfl ?_
      refine w_iconst (pc := 73) hX dX8_findsWay_73 ic_1 ?_
      refine pf_X8_wayCells (pc := 74) hX dX8_findsWay_74 hX8 (List.mem_of_getElem? (i := 2) rfl) 0 rfl rfl ?_
      refine w_lvs [true, false, true, true, false, false] ?_
      refine lpr_ind (T := fun x4 : (Int32 × Int32 × nF × nF × Int32 × Int32) => WW G X 0 0 (wX8 G a_t m_s m_begun m_kept m_isKept m_past m_states m_text m_length r3.1 r3.2 x4.2.2.1 x4.2.2.2.1 x4.2.2.2.2.1 x4.2.2.2.2.2 m_visits m_wasSo m_bestAway m_bestMade m_bestFault m_isHere m_place m_reason m_wide m_high) [some (.ref (a_t 0)), none, some (.int x4.1), some (.int x4.2.1), none, none] 77 []) (fun self5 hself5 x4 hm => ?_) F (m_s (2 : Int32).toNatClampNeg, (-1 : Int32), (upd x1 (m_s (2 : Int32).toNatClampNeg).toNatClampNeg (vp_nar .boolean (1 : Int32))), (upd m_steps (0 : Int32).toNatClampNeg (m_s (2 : Int32).toNatClampNeg)), (1 : Int32), (0 : Int32)) hm
      unfold mX8_findsWay_L77 at hm
      refine w_aload_n (pc := 77) hX dX8_findsWay_77 rfl rfl ?_
      refine gf_X8_far (pc := 78) hX dX8_findsWay_78 hX8 (List.mem_of_getElem? (i := 5) rfl) 0 rfl rfl ?_
      refine w_iload_n (pc := 81) hX dX8_findsWay_81 rfl rfl ?_
      refine w_iald (pc := 82) hX dX8_findsWay_82 6 rfl hm (fun hm => ?_)
      refine w_if_le (pc := 83) (tgt := 211) hX dX8_findsWay_83 (by decide) hm (fun hm => ?_) (fun hm => ?_)
      ·
        refine w_iconst (pc := 211) hX dX8_findsWay_211 ic_1 ?_
        refine w_zret (pc := 212) hX hR dX8_findsWay_212 hm (fun hm => ?_)
        obtain rfl := som hm
        exact ⟨rfl, rfl⟩
      ·
        refine w_iconst (pc := 86) hX dX8_findsWay_86 ic_m1 ?_
        refine w_istore (pc := 87) hX dX8_findsWay_87 (Nat.le_of_ble_eq_true rfl) ?_
        refine w_iconst (pc := 89) hX dX8_findsWay_89 ic_0 ?_
        refine w_istore (pc := 90) hX dX8_findsWay_90 (Nat.le_of_ble_eq_true rfl) ?_
        refine w_jn (T := fun x6 : Int32 => WW G X 0 0 (wX8 G a_t m_s m_begun m_kept m_isKept m_past m_states m_text m_length r3.1 r3.2 x4.2.2.1 x4.2.2.2.1 x4.2.2.2.2.1 x4.2.2.2.2.2 m_visits m_wasSo m_bestAway m_bestMade m_bestFault m_isHere m_place m_reason m_wide m_high) [some (.ref (a_t 0)), none, some (.int x4.1), some (.int x4.2.1), some (.int x6), none] 146 []) hm (fun x6 hm => ?_) (fun j7 hj7 hm => ?_)
        ·
          unfold mX8_findsWay_K146 at hm
          refine w_aload_n (pc := 146) hX dX8_findsWay_146 rfl rfl ?_
          refine w_dup (pc := 147) hX dX8_findsWay_147 rfl ?_
          refine gf_X8_turns (pc := 148) hX dX8_findsWay_148 hX8 (List.mem_of_getElem? (i := 3) rfl) 0 rfl rfl ?_
          refine w_iload_n (pc := 151) hX dX8_findsWay_151 rfl rfl ?_
          refine w_jn (T := fun x8 : Int32 => WW G X 0 0 (wX8 G a_t m_s m_begun m_kept m_isKept m_past m_states m_text m_length r3.1 r3.2 x4.2.2.1 x4.2.2.2.1 x4.2.2.2.2.1 x4.2.2.2.2.2 m_visits m_wasSo m_bestAway m_bestMade m_bestFault m_isHere m_place m_reason m_wide m_high) [some (.ref (a_t 0)), none, some (.int x4.1), none, some (.int x6), none] 166 [.int x8, .int x4.2.2.2.2.2, .ref (a_t 0)]) hm (fun x8 hm => ?_) (fun j9 hj9 hm => ?_)
          ·
            refine w_iadd (pc := 166) hX dX8_findsWay_166 ?_
            refine pf_X8_turns (pc := 167) hX dX8_findsWay_167 hX8 (List.mem_of_getElem? (i := 3) rfl) 0 rfl rfl ?_
            refine w_iload (pc := 170) hX dX8_findsWay_170 rfl ?_
            refine w_istore_n (pc := 172) hX dX8_findsWay_172 rfl (Nat.le_of_ble_eq_true rfl) ?_
            refine w_aload_n (pc := 173) hX dX8_findsWay_173 rfl rfl ?_
            refine w_iload_n (pc := 174) hX dX8_findsWay_174 rfl rfl ?_
            refine w_iload (pc := 175) hX dX8_findsWay_175 rfl ?_
            obtain ⟨r10, hr10, hm⟩ := bnd hm
            refine w_callpi (pc := 177) hX [0, 1, 2, 3, 4, 5, 6, 7, 8, 9, 10, 11, 12] (runV (rest := []) hX [0, 1, 2, 3, 4, 5, 6, 7, 8, 9, 10, 11, 12] (ctX8_besides G a_t m_s m_begun m_kept m_isKept m_past m_states m_text m_length r3.1 r3.2 x4.2.2.1 x4.2.2.2.1 x4.2.2.2.2.1 (x4.2.2.2.2.2 + x8) m_visits m_wasSo m_bestAway m_bestMade m_bestFault m_isHere m_place m_reason m_wide m_high x4.1 x6 r10 hr10) dX8_findsWay_177 2 gX8_findsWay_X8_besides rfl hyX8_besides ⟨Nat.le_of_ble_eq_true rfl, Nat.le_of_ble_eq_true rfl⟩ 0 rfl rfl rfl rfl (Nat.le_of_ble_eq_true rfl) ⟨Nat.le_of_ble_eq_true rfl, Nat.le_of_ble_eq_true rfl⟩ rfl (by decide +kernel)) rfl ⟨rfl, rfl⟩ ?_
            refine w_istore_n (pc := 180) hX dX8_findsWay_180 rfl (Nat.le_of_ble_eq_true rfl) ?_
            refine w_aload_n (pc := 181) hX dX8_findsWay_181 rfl rfl ?_
            refine gf_X8_isOn (pc := 182) hX dX8_findsWay_182 hX8 (List.mem_of_getElem? (i := 1) rfl) 0 rfl rfl ?_
            refine w_iload_n (pc := 185) hX dX8_findsWay_185 rfl rfl ?_
            refine w_iconst (pc := 186) hX dX8_findsWay_186 ic_1 ?_
            refine w_zast (pc := 187) hX dX8_findsWay_187 8 rfl hm (fun hm => ?_)
            refine w_aload_n (pc := 188) hX dX8_findsWay_188 rfl rfl ?_
            refine gf_X8_steps (pc := 189) hX dX8_findsWay_189 hX8 (List.mem_of_getElem? (i := 6) rfl) 0 rfl rfl ?_
            refine w_aload_n (pc := 192) hX dX8_findsWay_192 rfl rfl ?_
            refine gf_X8_wayCells (pc := 193) hX dX8_findsWay_193 hX8 (List.mem_of_getElem? (i := 2) rfl) 0 rfl rfl ?_
            refine w_iload_n (pc := 196) hX dX8_findsWay_196 rfl rfl ?_
            refine w_iast (pc := 197) hX dX8_findsWay_197 9 rfl hm (fun hm => ?_)
            refine w_aload_n (pc := 198) hX dX8_findsWay_198 rfl rfl ?_
            refine w_dup (pc := 199) hX dX8_findsWay_199 rfl ?_
            refine gf_X8_wayCells (pc := 200) hX dX8_findsWay_200 hX8 (List.mem_of_getElem? (i := 2) rfl) 0 rfl rfl ?_
            refine w_iconst (pc := 203) hX dX8_findsWay_203 ic_1 ?_
            refine w_iadd (pc := 204) hX dX8_findsWay_204 ?_
            refine pf_X8_wayCells (pc := 205) hX dX8_findsWay_205 hX8 (List.mem_of_getElem? (i := 2) rfl) 0 rfl rfl ?_
            refine w_goto (pc := 208) (tgt := 77) hX dX8_findsWay_208 (by decide) ?_
            exact w_lvs [true, false, true, true, false, false] (hself5 (r10, x6, (upd x4.2.2.1 r10.toNatClampNeg (vp_nar .boolean (1 : Int32))), (upd x4.2.2.2.1 x4.2.2.2.2.1.toNatClampNeg r10), x4.2.2.2.2.1 + (1 : Int32), x4.2.2.2.2.2 + x8) hm)
          ·
            refine w_jn (T := fun x11 : Unit => WW G X 0 0 (wX8 G a_t m_s m_begun m_kept m_isKept m_past m_states m_text m_length r3.1 r3.2 x4.2.2.1 x4.2.2.2.1 x4.2.2.2.2.1 x4.2.2.2.2.2 m_visits m_wasSo m_bestAway m_bestMade m_bestFault m_isHere m_place m_reason m_wide m_high) [some (.ref (a_t 0)), none, some (.int x4.1), none, some (.int x6), none] 165 [.int x4.2.2.2.2.2, .ref (a_t 0)]) hm (fun x11 hm => ?_) (fun j12 hj12 hm => ?_)
            ·
              refine w_iconst (pc := 165) hX dX8_findsWay_165 ic_0 ?_
              exact w_lvs [true, false, true, false, true, false] (hj9 (0 : Int32) hm)
            ·
              refine w_if_lt (pc := 152) (tgt := 165) hX dX8_findsWay_152 (by decide) hm (fun hm => ?_) (fun hm => ?_)
              ·
                exact w_lvs [true, false, true, false, true, false] (hj12 () hm)
              ·
                refine w_iload (pc := 155) hX dX8_findsWay_155 rfl ?_
                refine w_iload_n (pc := 157) hX dX8_findsWay_157 rfl rfl ?_
                refine w_icmp_eq (pc := 158) (tgt := 165) hX dX8_findsWay_158 (by decide) hm (fun hm => ?_) (fun hm => ?_)
                ·
                  exact w_lvs [true, false, true, false, true, false] (hj12 () hm)
                ·
                  refine w_iconst (pc := 161) hX dX8_findsWay_161 ic_1 ?_
                  refine w_goto (pc := 162) (tgt := 166) hX dX8_findsWay_162 (by decide) ?_
                  exact w_lvs [true, false, true, false, true, false] (hj9 (1 : Int32) hm)
        ·
          refine w_lvs [true, false, true, true, true, true] ?_
          refine lpr_ind (T := fun x13 : (Int32 × Int32) => WW G X 0 0 (wX8 G a_t m_s m_begun m_kept m_isKept m_past m_states m_text m_length r3.1 r3.2 x4.2.2.1 x4.2.2.2.1 x4.2.2.2.2.1 x4.2.2.2.2.2 m_visits m_wasSo m_bestAway m_bestMade m_bestFault m_isHere m_place m_reason m_wide m_high) [some (.ref (a_t 0)), none, some (.int x4.1), some (.int x4.2.1), some (.int x13.1), some (.int x13.2)] 92 []) (fun self14 hself14 x13 hm => ?_) F ((-1 : Int32), (0 : Int32)) hm
          unfold mX8_findsWay_L92 at hm
          refine w_iload (pc := 92) hX dX8_findsWay_92 rfl ?_
          refine w_iconst (pc := 94) hX dX8_findsWay_94 ic_4 ?_
          refine w_icmp_ge (pc := 95) (tgt := 146) hX dX8_findsWay_95 (by decide) hm (fun hm => ?_) (fun hm => ?_)
          ·
            exact w_lvs [true, false, true, true, true, false] (hj7 x13.1 hm)
          ·
            refine w_aload_n (pc := 98) hX dX8_findsWay_98 rfl rfl ?_
            refine w_iload_n (pc := 99) hX dX8_findsWay_99 rfl rfl ?_
            refine w_iload (pc := 100) hX dX8_findsWay_100 rfl ?_
            obtain ⟨r15, hr15, hm⟩ := bnd hm
            refine w_callpi (pc := 102) hX [0, 1, 2, 3, 4, 5, 6, 7, 8, 9, 10, 11, 12] (runV (rest := []) hX [0, 1, 2, 3, 4, 5, 6, 7, 8, 9, 10, 11, 12] (ctX8_isOpen G a_t m_s m_begun m_kept m_isKept m_past m_states m_text m_length r3.1 r3.2 x4.2.2.1 x4.2.2.2.1 x4.2.2.2.2.1 x4.2.2.2.2.2 m_visits m_wasSo m_bestAway m_bestMade m_bestFault m_isHere m_place m_reason m_wide m_high x4.1 x13.2 r15 hr15) dX8_findsWay_102 2 gX8_findsWay_X8_isOpen rfl hyX8_isOpen ⟨Nat.le_of_ble_eq_true rfl, Nat.le_of_ble_eq_true rfl⟩ 0 rfl rfl rfl rfl (Nat.le_of_ble_eq_true rfl) ⟨Nat.le_of_ble_eq_true rfl, Nat.le_of_ble_eq_true rfl⟩ rfl (by decide +kernel)) rfl ⟨rfl, rfl⟩ ?_
            refine w_jn (T := fun x16 : Int32 => WW G X 0 0 (wX8 G a_t m_s m_begun m_kept m_isKept m_past m_states m_text m_length r3.1 r3.2 x4.2.2.1 x4.2.2.2.1 x4.2.2.2.2.1 x4.2.2.2.2.2 m_visits m_wasSo m_bestAway m_bestMade m_bestFault m_isHere m_place m_reason m_wide m_high) [some (.ref (a_t 0)), none, some (.int x4.1), some (.int x4.2.1), none, some (.int x13.2)] 138 [.int x16]) hm (fun x16 hm => ?_) (fun j17 hj17 hm => ?_)
            ·
              refine w_istore (pc := 138) hX dX8_findsWay_138 (Nat.le_of_ble_eq_true rfl) ?_
              refine w_iinc (pc := 140) hX dX8_findsWay_140 rfl (Nat.le_of_ble_eq_true rfl) ic_1 ?_
              refine w_goto (pc := 143) (tgt := 92) hX dX8_findsWay_143 (by decide) ?_
              exact w_lvs [true, false, true, true, true, true] (hself14 (x16, x13.2 + (1 : Int32)) hm)
            ·
              refine w_jn (T := fun x18 : Unit => WW G X 0 0 (wX8 G a_t m_s m_begun m_kept m_isKept m_past m_states m_text m_length r3.1 r3.2 x4.2.2.1 x4.2.2.2.1 x4.2.2.2.2.1 x4.2.2.2.2.2 m_visits m_wasSo m_bestAway m_bestMade m_bestFault m_isHere m_place m_reason m_wide m_high) [some (.ref (a_t 0)), none, some (.int x4.1), some (.int x4.2.1), some (.int x13.1), some (.int x13.2)] 136 []) hm (fun x18 hm => ?_) (fun j19 hj19 hm => ?_)
              ·
                refine w_iload (pc := 136) hX dX8_findsWay_136 rfl ?_
                exact w_lvs [true, false, true, true, false, true] (hj17 x13.1 hm)
              ·
                refine w_if_eq (pc := 105) (tgt := 136) hX dX8_findsWay_105 (by decide) hm (fun hm => ?_) (fun hm => ?_)
                ·
                  exact w_lvs [true, false, true, true, true, true] (hj19 () hm)
                ·
                  refine w_aload_n (pc := 108) hX dX8_findsWay_108 rfl rfl ?_
                  refine gf_X8_far (pc := 109) hX dX8_findsWay_109 hX8 (List.mem_of_getElem? (i := 5) rfl) 0 rfl rfl ?_
                  refine w_aload_n (pc := 112) hX dX8_findsWay_112 rfl rfl ?_
                  refine w_iload_n (pc := 113) hX dX8_findsWay_113 rfl rfl ?_
                  refine w_iload (pc := 114) hX dX8_findsWay_114 rfl ?_
                  obtain ⟨r20, hr20, hm⟩ := bnd hm
                  refine w_callpi (pc := 116) hX [0, 1, 2, 3, 4, 5, 6, 7, 8, 9, 10, 11, 12] (runV (rest := [.ref (a_t 6)]) hX [0, 1, 2, 3, 4, 5, 6, 7, 8, 9, 10, 11, 12] (ctX8_besides G a_t m_s m_begun m_kept m_isKept m_past m_states m_text m_length r3.1 r3.2 x4.2.2.1 x4.2.2.2.1 x4.2.2.2.2.1 x4.2.2.2.2.2 m_visits m_wasSo m_bestAway m_bestMade m_bestFault m_isHere m_place m_reason m_wide m_high x4.1 x13.2 r20 hr20) dX8_findsWay_116 2 gX8_findsWay_X8_besides rfl hyX8_besides ⟨Nat.le_of_ble_eq_true rfl, Nat.le_of_ble_eq_true rfl⟩ 0 rfl rfl rfl rfl (Nat.le_of_ble_eq_true rfl) ⟨Nat.le_of_ble_eq_true rfl, Nat.le_of_ble_eq_true rfl⟩ rfl (by decide +kernel)) rfl ⟨rfl, rfl⟩ ?_
                  refine w_iald (pc := 119) hX dX8_findsWay_119 6 rfl hm (fun hm => ?_)
                  refine w_aload_n (pc := 120) hX dX8_findsWay_120 rfl rfl ?_
                  refine gf_X8_far (pc := 121) hX dX8_findsWay_121 hX8 (List.mem_of_getElem? (i := 5) rfl) 0 rfl rfl ?_
                  refine w_iload_n (pc := 124) hX dX8_findsWay_124 rfl rfl ?_
                  refine w_iald (pc := 125) hX dX8_findsWay_125 6 rfl hm (fun hm => ?_)
                  refine w_iconst (pc := 126) hX dX8_findsWay_126 ic_1 ?_
                  refine w_isub (pc := 127) hX dX8_findsWay_127 ?_
                  refine w_icmp_ne (pc := 128) (tgt := 136) hX dX8_findsWay_128 (by decide) hm (fun hm => ?_) (fun hm => ?_)
                  ·
                    exact w_lvs [true, false, true, true, true, true] (hj19 () hm)
                  ·
                    refine w_iload (pc := 131) hX dX8_findsWay_131 rfl ?_
                    refine w_goto (pc := 133) (tgt := 138) hX dX8_findsWay_133 (by decide) ?_
                    exact w_lvs [true, false, true, true, false, true] (hj17 x13.2 hm)
    ·
      refine w_iconst (pc := 54) hX dX8_findsWay_54 ic_0 ?_
      refine w_zret (pc := 55) hX hR dX8_findsWay_55 hm (fun hm => ?_)
      obtain rfl := som hm
      exact ⟨rfl, rfl⟩
  ·
    refine w_lvs [true, true, true, false, false, false] ?_
    refine lpr_ind (T := fun x21 : (Int32 × nF) => WW G X 0 0 (wX8 G a_t m_s m_begun m_kept m_isKept m_past m_states m_text m_length m_far m_queue x21.2 m_steps m_wayCells m_turns m_visits m_wasSo m_bestAway m_bestMade m_bestFault m_isHere m_place m_reason m_wide m_high) [some (.ref (a_t 0)), some (.int g1), some (.int x21.1), none, none, none] 2 []) (fun self22 hself22 x21 hm => ?_) F ((0 : Int32), m_isOn) hm
    unfold mX8_findsWay_L2 at hm
    refine w_iload_n (pc := 2) hX dX8_findsWay_2 rfl rfl ?_
    refine w_aload_n (pc := 3) hX dX8_findsWay_3 rfl rfl ?_
    obtain ⟨r23, hr23, hm⟩ := bnd hm
    refine w_callpi (pc := 4) hX [0, 1, 2, 3, 4, 5, 6, 7, 8, 9, 10, 11, 12] (runV (rest := [.int x21.1]) hX [0, 1, 2, 3, 4, 5, 6, 7, 8, 9, 10, 11, 12] (ctX8_cells G a_t m_s m_begun m_kept m_isKept m_past m_states m_text m_length m_far m_queue x21.2 m_steps m_wayCells m_turns m_visits m_wasSo m_bestAway m_bestMade m_bestFault m_isHere m_place m_reason m_wide m_high r23 hr23) dX8_findsWay_4 0 gX8_findsWay_X8_cells rfl hyX8_cells ⟨Nat.le_of_ble_eq_true rfl, Nat.le_of_ble_eq_true rfl⟩ 0 rfl rfl rfl rfl (Nat.le_of_ble_eq_true rfl) ⟨Nat.le_of_ble_eq_true rfl, Nat.le_of_ble_eq_true rfl⟩ rfl (by decide +kernel)) rfl ⟨rfl, rfl⟩ ?_
    refine w_icmp_ge (pc := 7) (tgt := 23) hX dX8_findsWay_7 (by decide) hm (fun hm => ?_) (fun hm => ?_)
    ·
      exact w_lvs [true, true, false, false, false, false] (hj2 x21.2 hm)
    ·
      refine w_aload_n (pc := 10) hX dX8_findsWay_10 rfl rfl ?_
      refine gf_X8_isOn (pc := 11) hX dX8_findsWay_11 hX8 (List.mem_of_getElem? (i := 1) rfl) 0 rfl rfl ?_
      refine w_iload_n (pc := 14) hX dX8_findsWay_14 rfl rfl ?_
      refine w_iconst (pc := 15) hX dX8_findsWay_15 ic_0 ?_
      refine w_zast (pc := 16) hX dX8_findsWay_16 8 rfl hm (fun hm => ?_)
      refine w_iinc (pc := 17) hX dX8_findsWay_17 rfl (Nat.le_of_ble_eq_true rfl) ic_1 ?_
      refine w_goto (pc := 20) (tgt := 2) hX dX8_findsWay_20 (by decide) ?_
      exact w_lvs [true, true, true, false, false, false] (hself22 (x21.1 + (1 : Int32), (upd x21.2 x21.1.toNatClampNeg (vp_nar .boolean (0 : Int32)))) hm)

theorem lX8_faultTo_X8 : ∀ w ∈ wsX80, w ∈ wsX8_faultTo := in_at [33, 34, 35, 36, 37, 38, 39, 40, 41, 42, 43, 44, 45, 46, 47, 48, 49, 50, 51, 52, 53, 54, 55, 56] (by decide +kernel)
set_option maxHeartbeats 4000000 in
set_option maxRecDepth 100000 in
theorem ctX8_faultTo (G : gT) (F : Nat) (a_t : Nat → Nat) (m_s : nF) (m_begun : nF) (m_kept : nF) (m_isKept : Int32) (m_past : nF) (m_states : Int32) (m_text : nF) (m_length : Int32) (m_far : nF) (m_queue : nF) (m_isOn : nF) (m_steps : nF) (m_wayCells : Int32) (m_turns : Int32) (m_visits : nF) (m_wasSo : nF) (m_bestAway : Int32) (m_bestMade : Int32) (m_bestFault : Int32) (m_isHere : nF) (m_place : Int32) (m_reason : Int32) (m_wide : Int32) (m_high : Int32) (g1 : Int32) (o : (Int32 × nF × nF × nF × nF × Int32 × Int32)) (hm : mX8_faultTo F m_s m_far m_queue m_isOn m_steps m_wayCells m_turns g1 = some o) : CT G yX8_faultTo wsX8_faultTo rmX8_faultTo [.ref (a_t 0), .int g1] (wX8 G a_t m_s m_begun m_kept m_isKept m_past m_states m_text m_length m_far m_queue m_isOn m_steps m_wayCells m_turns m_visits m_wasSo m_bestAway m_bestMade m_bestFault m_isHere m_place m_reason m_wide m_high) (fun v w => v = some (.int o.1) ∧ w = wX8 G a_t m_s m_begun m_kept m_isKept m_past m_states m_text m_length o.2.1 o.2.2.1 o.2.2.2.1 o.2.2.2.2.1 o.2.2.2.2.2.1 o.2.2.2.2.2.2 m_visits m_wasSo m_bestAway m_bestMade m_bestFault m_isHere m_place m_reason m_wide m_high) := by
  refine CT_of (cc := cX8_faultTo) (maxL := 5) (ret := (some .int)) 3 (by decide +kernel) rfl rfl (cat_ok rfl) (fun X hX hR hN => ?_)
  have hX : Ok G X cX8_faultTo RX8 wsX8_faultTo 5 rmX8_faultTo := hX
  have hX8 : ∀ w ∈ wsX80, w ∈ wsX8_faultTo := lX8_faultTo_X8
  unfold mX8_faultTo at hm
  refine w_aload_n (pc := 0) hX dX8_faultTo_0 rfl rfl ?_
  refine w_iload_n (pc := 1) hX dX8_faultTo_1 rfl rfl ?_
  obtain ⟨r1, hr1, hm⟩ := bnd hm
  refine w_calldi (pc := 2) (ws' := wX8 G a_t m_s m_begun m_kept m_isKept m_past m_states m_text m_length r1.2.1 r1.2.2.1 r1.2.2.2.1 r1.2.2.2.2.1 r1.2.2.2.2.2.1 r1.2.2.2.2.2.2 m_visits m_wasSo m_bestAway m_bestMade m_bestFault m_isHere m_place m_reason m_wide m_high) (os := [some 0, some 1, some 2, some 3, some 4, some 5, some 6, some 7, some 8, some 9, some 10, some 11, some 12]) 13 hX [0, 1, 2, 3, 4, 5, 6, 7, 8, 9, 10, 11, 12] (runV (rest := []) hX [0, 1, 2, 3, 4, 5, 6, 7, 8, 9, 10, 11, 12] (ctX8_findsWay G F a_t m_s m_begun m_kept m_isKept m_past m_states m_text m_length m_far m_queue m_isOn m_steps m_wayCells m_turns m_visits m_wasSo m_bestAway m_bestMade m_bestFault m_isHere m_place m_reason m_wide m_high g1 r1 hr1) dX8_faultTo_2 1 gX8_faultTo_X8_findsWay rfl hyX8_findsWay ⟨Nat.le_of_ble_eq_true rfl, Nat.le_of_ble_eq_true rfl⟩ 0 rfl rfl rfl rfl (Nat.le_of_ble_eq_true rfl) ⟨Nat.le_of_ble_eq_true rfl, Nat.le_of_ble_eq_true rfl⟩ rfl (by decide +kernel)) rfl rfl rfl (by decide +kernel) rfl ⟨rfl, rfl⟩ ?_
  refine w_istore_n (pc := 5) hX dX8_faultTo_5 rfl (Nat.le_of_ble_eq_true rfl) ?_
  refine w_iconst (pc := 6) hX dX8_faultTo_6 ic_0 ?_
  refine w_istore_n (pc := 7) hX dX8_faultTo_7 rfl (Nat.le_of_ble_eq_true rfl) ?_
  refine w_iconst (pc := 8) hX dX8_faultTo_8 ic_0 ?_
  refine w_istore (pc := 9) hX dX8_faultTo_9 (Nat.le_of_ble_eq_true rfl) ?_
  refine w_lvs [true, false, false, true, true] ?_
  refine lpr_ind (T := fun x2 : (Int32 × Int32) => WW G X 0 0 (wX8 G a_t m_s m_begun m_kept m_isKept m_past m_states m_text m_length r1.2.1 r1.2.2.1 r1.2.2.2.1 r1.2.2.2.2.1 r1.2.2.2.2.2.1 r1.2.2.2.2.2.2 m_visits m_wasSo m_bestAway m_bestMade m_bestFault m_isHere m_place m_reason m_wide m_high) [some (.ref (a_t 0)), none, none, some (.int x2.1), some (.int x2.2)] 11 []) (fun self3 hself3 x2 hm => ?_) F ((0 : Int32), (0 : Int32)) hm
  unfold mX8_faultTo_L11 at hm
  refine w_iload (pc := 11) hX dX8_faultTo_11 rfl ?_
  refine w_aload_n (pc := 13) hX dX8_faultTo_13 rfl rfl ?_
  obtain ⟨r4, hr4, hm⟩ := bnd hm
  refine w_callpi (pc := 14) hX [0, 1, 2, 3, 4, 5, 6, 7, 8, 9, 10, 11, 12] (runV (rest := [.int x2.2]) hX [0, 1, 2, 3, 4, 5, 6, 7, 8, 9, 10, 11, 12] (ctX8_cells G a_t m_s m_begun m_kept m_isKept m_past m_states m_text m_length r1.2.1 r1.2.2.1 r1.2.2.2.1 r1.2.2.2.2.1 r1.2.2.2.2.2.1 r1.2.2.2.2.2.2 m_visits m_wasSo m_bestAway m_bestMade m_bestFault m_isHere m_place m_reason m_wide m_high r4 hr4) dX8_faultTo_14 0 gX8_faultTo_X8_cells rfl hyX8_cells ⟨Nat.le_of_ble_eq_true rfl, Nat.le_of_ble_eq_true rfl⟩ 0 rfl rfl rfl rfl (Nat.le_of_ble_eq_true rfl) ⟨Nat.le_of_ble_eq_true rfl, Nat.le_of_ble_eq_true rfl⟩ rfl (by decide +kernel)) rfl ⟨rfl, rfl⟩ ?_
  refine w_icmp_ge (pc := 17) (tgt := 65) hX dX8_faultTo_17 (by decide) hm (fun hm => ?_) (fun hm => ?_)
  ·
    refine w_iload_n (pc := 65) hX dX8_faultTo_65 rfl rfl ?_
    obtain rfl := som hm
    exact w_iret (pc := 66) hX hR dX8_faultTo_66 ⟨rfl, rfl⟩
  ·
    refine w_iload_n (pc := 20) hX dX8_faultTo_20 rfl rfl ?_
    refine w_aload_n (pc := 21) hX dX8_faultTo_21 rfl rfl ?_
    refine gf_X8_isOn (pc := 22) hX dX8_faultTo_22 hX8 (List.mem_of_getElem? (i := 1) rfl) 0 rfl rfl ?_
    refine w_iload (pc := 25) hX dX8_faultTo_25 rfl ?_
    refine w_zald (pc := 27) hX dX8_faultTo_27 8 rfl hm (fun hm => ?_)
    refine w_jn (T := fun x5 : Int32 => WW G X 0 0 (wX8 G a_t m_s m_begun m_kept m_isKept m_past m_states m_text m_length r1.2.1 r1.2.2.1 r1.2.2.2.1 r1.2.2.2.2.1 r1.2.2.2.2.2.1 r1.2.2.2.2.2.2 m_visits m_wasSo m_bestAway m_bestMade m_bestFault m_isHere m_place m_reason m_wide m_high) [some (.ref (a_t 0)), none, none, none, some (.int x2.2)] 57 [.int x5, .int x2.1]) hm (fun x5 hm => ?_) (fun j6 hj6 hm => ?_)
    ·
      refine w_iadd (pc := 57) hX dX8_faultTo_57 ?_
      refine w_istore_n (pc := 58) hX dX8_faultTo_58 rfl (Nat.le_of_ble_eq_true rfl) ?_
      refine w_iinc (pc := 59) hX dX8_faultTo_59 rfl (Nat.le_of_ble_eq_true rfl) ic_1 ?_
      refine w_goto (pc := 62) (tgt := 11) hX dX8_faultTo_62 (by decide) ?_
      exact w_lvs [true, false, false, true, true] (hself3 (x2.1 + x5, x2.2 + (1 : Int32)) hm)
    ·
      refine w_if_eq (pc := 28) (tgt := 47) hX dX8_faultTo_28 (by decide) hm (fun hm => ?_) (fun hm => ?_)
      ·
        refine w_aload_n (pc := 47) hX dX8_faultTo_47 rfl rfl ?_
        refine gf_X8_s (pc := 48) hX dX8_faultTo_48 hX8 (List.mem_of_getElem? (i := 2) rfl) 0 rfl rfl ?_
        refine w_bipush (pc := 51) hX dX8_faultTo_51 bp_6 ?_
        refine w_iload (pc := 53) hX dX8_faultTo_53 rfl ?_
        refine w_iadd (pc := 55) hX dX8_faultTo_55 ?_
        refine w_iald (pc := 56) hX dX8_faultTo_56 1 rfl hm (fun hm => ?_)
        exact w_lvs [true, false, false, false, true] (hj6 (m_s ((6 : Int32) + x2.2).toNatClampNeg) hm)
      ·
        refine w_bipush (pc := 31) hX dX8_faultTo_31 bp_9 ?_
        refine w_aload_n (pc := 33) hX dX8_faultTo_33 rfl rfl ?_
        refine gf_X8_s (pc := 34) hX dX8_faultTo_34 hX8 (List.mem_of_getElem? (i := 2) rfl) 0 rfl rfl ?_
        refine w_bipush (pc := 37) hX dX8_faultTo_37 bp_6 ?_
        refine w_iload (pc := 39) hX dX8_faultTo_39 rfl ?_
        refine w_iadd (pc := 41) hX dX8_faultTo_41 ?_
        refine w_iald (pc := 42) hX dX8_faultTo_42 1 rfl hm (fun hm => ?_)
        refine w_isub (pc := 43) hX dX8_faultTo_43 ?_
        refine w_goto (pc := 44) (tgt := 57) hX dX8_faultTo_44 (by decide) ?_
        exact w_lvs [true, false, false, false, true] (hj6 ((9 : Int32) - (m_s ((6 : Int32) + x2.2).toNatClampNeg)) hm)

theorem lX8_wayFault_X8 : ∀ w ∈ wsX80, w ∈ wsX8_wayFault := in_at [37, 38, 39, 40, 41, 42, 43, 44, 45, 46, 47, 48, 49, 50, 51, 52, 53, 54, 55, 56, 57, 58, 59, 60] (by decide +kernel)
set_option maxHeartbeats 4000000 in
set_option maxRecDepth 100000 in
theorem ctX8_wayFault (G : gT) (F : Nat) (a_t : Nat → Nat) (m_s : nF) (m_begun : nF) (m_kept : nF) (m_isKept : Int32) (m_past : nF) (m_states : Int32) (m_text : nF) (m_length : Int32) (m_far : nF) (m_queue : nF) (m_isOn : nF) (m_steps : nF) (m_wayCells : Int32) (m_turns : Int32) (m_visits : nF) (m_wasSo : nF) (m_bestAway : Int32) (m_bestMade : Int32) (m_bestFault : Int32) (m_isHere : nF) (m_place : Int32) (m_reason : Int32) (m_wide : Int32) (m_high : Int32) (o : (Int32 × nF × nF × nF × nF × Int32 × Int32)) (hm : mX8_wayFault F m_s m_far m_queue m_isOn m_steps m_wayCells m_turns = some o) : CT G yX8_wayFault wsX8_wayFault rmX8_wayFault [.ref (a_t 0)] (wX8 G a_t m_s m_begun m_kept m_isKept m_past m_states m_text m_length m_far m_queue m_isOn m_steps m_wayCells m_turns m_visits m_wasSo m_bestAway m_bestMade m_bestFault m_isHere m_place m_reason m_wide m_high) (fun v w => v = some (.int o.1) ∧ w = wX8 G a_t m_s m_begun m_kept m_isKept m_past m_states m_text m_length o.2.1 o.2.2.1 o.2.2.2.1 o.2.2.2.2.1 o.2.2.2.2.2.1 o.2.2.2.2.2.2 m_visits m_wasSo m_bestAway m_bestMade m_bestFault m_isHere m_place m_reason m_wide m_high) := by
  refine CT_of (cc := cX8_wayFault) (maxL := 1) (ret := (some .int)) 0 (by decide +kernel) rfl rfl (cat_ok rfl) (fun X hX hR hN => ?_)
  have hX : Ok G X cX8_wayFault RX8 wsX8_wayFault 1 rmX8_wayFault := hX
  have hX8 : ∀ w ∈ wsX80, w ∈ wsX8_wayFault := lX8_wayFault_X8
  unfold mX8_wayFault at hm
  refine w_aload_n (pc := 0) hX dX8_wayFault_0 rfl rfl ?_
  refine w_aload_n (pc := 1) hX dX8_wayFault_1 rfl rfl ?_
  refine gf_X8_s (pc := 2) hX dX8_wayFault_2 hX8 (List.mem_of_getElem? (i := 1) rfl) 0 rfl rfl ?_
  refine w_iconst (pc := 5) hX dX8_wayFault_5 ic_4 ?_
  refine w_iald (pc := 6) hX dX8_wayFault_6 1 rfl hm (fun hm => ?_)
  obtain ⟨r1, hr1, hm⟩ := bnd hm
  refine w_calldi (pc := 7) (ws' := wX8 G a_t m_s m_begun m_kept m_isKept m_past m_states m_text m_length r1.2.1 r1.2.2.1 r1.2.2.2.1 r1.2.2.2.2.1 r1.2.2.2.2.2.1 r1.2.2.2.2.2.2 m_visits m_wasSo m_bestAway m_bestMade m_bestFault m_isHere m_place m_reason m_wide m_high) (os := [some 0, some 1, some 2, some 3, some 4, some 5, some 6, some 7, some 8, some 9, some 10, some 11, some 12]) 13 hX [0, 1, 2, 3, 4, 5, 6, 7, 8, 9, 10, 11, 12] (runV (rest := []) hX [0, 1, 2, 3, 4, 5, 6, 7, 8, 9, 10, 11, 12] (ctX8_faultTo G F a_t m_s m_begun m_kept m_isKept m_past m_states m_text m_length m_far m_queue m_isOn m_steps m_wayCells m_turns m_visits m_wasSo m_bestAway m_bestMade m_bestFault m_isHere m_place m_reason m_wide m_high (m_s (4 : Int32).toNatClampNeg) r1 hr1) dX8_wayFault_7 1 gX8_wayFault_X8_faultTo rfl hyX8_faultTo ⟨Nat.le_of_ble_eq_true rfl, Nat.le_of_ble_eq_true rfl⟩ 0 rfl rfl rfl rfl (Nat.le_of_ble_eq_true rfl) ⟨Nat.le_of_ble_eq_true rfl, Nat.le_of_ble_eq_true rfl⟩ rfl (by decide +kernel)) rfl rfl rfl (by decide +kernel) rfl ⟨rfl, rfl⟩ ?_
  obtain rfl := som hm
  exact w_iret (pc := 10) hX hR dX8_wayFault_10 ⟨rfl, rfl⟩

theorem lX8_walks_X8 : ∀ w ∈ wsX80, w ∈ wsX8_walks := in_at [17, 18, 19, 20, 21, 22, 23, 24, 25, 26, 27, 28, 29, 30, 31, 32, 33, 34, 35, 36, 37, 38, 39, 40] (by decide +kernel)
set_option maxHeartbeats 4000000 in
set_option maxRecDepth 100000 in
theorem ctX8_walks (G : gT) (F : Nat) (a_t : Nat → Nat) (m_s : nF) (m_begun : nF) (m_kept : nF) (m_isKept : Int32) (m_past : nF) (m_states : Int32) (m_text : nF) (m_length : Int32) (m_far : nF) (m_queue : nF) (m_isOn : nF) (m_steps : nF) (m_wayCells : Int32) (m_turns : Int32) (m_visits : nF) (m_wasSo : nF) (m_bestAway : Int32) (m_bestMade : Int32) (m_bestFault : Int32) (m_isHere : nF) (m_place : Int32) (m_reason : Int32) (m_wide : Int32) (m_high : Int32) (o : (Int32 × nF × nF)) (hm : mX8_walks F m_s m_visits m_wasSo = some o) : CT G yX8_walks wsX8_walks rmX8_walks [.ref (a_t 0)] (wX8 G a_t m_s m_begun m_kept m_isKept m_past m_states m_text m_length m_far m_queue m_isOn m_steps m_wayCells m_turns m_visits m_wasSo m_bestAway m_bestMade m_bestFault m_isHere m_place m_reason m_wide m_high) (fun v w => v = some (.int o.1) ∧ w = wX8 G a_t m_s m_begun m_kept m_isKept m_past m_states m_text m_length m_far m_queue m_isOn m_steps m_wayCells m_turns o.2.1 o.2.2 m_bestAway m_bestMade m_bestFault m_isHere m_place m_reason m_wide m_high) := by
  refine CT_of (cc := cX8_walks) (maxL := 6) (ret := (some .boolean)) 5 (by decide +kernel) rfl rfl (cat_ok rfl) (fun X hX hR hN => ?_)
  have hX : Ok G X cX8_walks RX8 wsX8_walks 6 rmX8_walks := hX
  have hX8 : ∀ w ∈ wsX80, w ∈ wsX8_walks := lX8_walks_X8
  unfold mX8_walks at hm
  refine w_iconst (pc := 0) hX dX8_walks_0 ic_0 ?_
  refine w_istore_n (pc := 1) hX dX8_walks_1 rfl (Nat.le_of_ble_eq_true rfl) ?_
  refine w_jn (T := fun x1 : nF => WW G X 0 0 (wX8 G a_t m_s m_begun m_kept m_isKept m_past m_states m_text m_length m_far m_queue m_isOn m_steps m_wayCells m_turns x1 m_wasSo m_bestAway m_bestMade m_bestFault m_isHere m_place m_reason m_wide m_high) [some (.ref (a_t 0)), none, none, none, none, none] 21 []) hm (fun x1 hm => ?_) (fun j2 hj2 hm => ?_)
  ·
    unfold mX8_walks_K21 at hm
    refine w_iconst (pc := 21) hX dX8_walks_21 ic_0 ?_
    refine w_istore_n (pc := 22) hX dX8_walks_22 rfl (Nat.le_of_ble_eq_true rfl) ?_
    refine w_jn (T := fun x3 : nF => WW G X 0 0 (wX8 G a_t m_s m_begun m_kept m_isKept m_past m_states m_text m_length m_far m_queue m_isOn m_steps m_wayCells m_turns x1 x3 m_bestAway m_bestMade m_bestFault m_isHere m_place m_reason m_wide m_high) [some (.ref (a_t 0)), none, none, none, none, none] 43 []) hm (fun x3 hm => ?_) (fun j4 hj4 hm => ?_)
    ·
      unfold mX8_walks_K43 at hm
      refine w_aload_n (pc := 43) hX dX8_walks_43 rfl rfl ?_
      refine gf_X8_s (pc := 44) hX dX8_walks_44 hX8 (List.mem_of_getElem? (i := 3) rfl) 0 rfl rfl ?_
      refine w_iconst (pc := 47) hX dX8_walks_47 ic_2 ?_
      refine w_iald (pc := 48) hX dX8_walks_48 1 rfl hm (fun hm => ?_)
      refine w_istore_n (pc := 49) hX dX8_walks_49 rfl (Nat.le_of_ble_eq_true rfl) ?_
      refine w_aload_n (pc := 50) hX dX8_walks_50 rfl rfl ?_
      refine gf_X8_s (pc := 51) hX dX8_walks_51 hX8 (List.mem_of_getElem? (i := 3) rfl) 0 rfl rfl ?_
      refine w_iconst (pc := 54) hX dX8_walks_54 ic_3 ?_
      refine w_iald (pc := 55) hX dX8_walks_55 1 rfl hm (fun hm => ?_)
      refine w_iconst (pc := 56) hX dX8_walks_56 ic_2 ?_
      refine w_iadd (pc := 57) hX dX8_walks_57 ?_
      refine w_iconst (pc := 58) hX dX8_walks_58 ic_4 ?_
      refine w_irem (pc := 59) hX dX8_walks_59 hm (fun hm => ?_)
      refine w_istore_n (pc := 60) hX dX8_walks_60 rfl (Nat.le_of_ble_eq_true rfl) ?_
      refine w_lvs [true, true, true, false, false, false] ?_
      refine lpr_ind (T := fun x5 : (Int32 × Int32 × nF × nF) => WW G X 0 0 (wX8 G a_t m_s m_begun m_kept m_isKept m_past m_states m_text m_length m_far m_queue m_isOn m_steps m_wayCells m_turns x5.2.2.1 x5.2.2.2 m_bestAway m_bestMade m_bestFault m_isHere m_place m_reason m_wide m_high) [some (.ref (a_t 0)), some (.int x5.1), some (.int x5.2.1), none, none, none] 61 []) (fun self6 hself6 x5 hm => ?_) F (m_s (2 : Int32).toNatClampNeg, ((m_s (3 : Int32).toNatClampNeg) + (2 : Int32)) - ((m_s (3 : Int32).toNatClampNeg) + (2 : Int32)) / (4 : Int32) * (4 : Int32), x1, x3) hm
      unfold mX8_walks_L61 at hm
      refine w_aload_n (pc := 61) hX dX8_walks_61 rfl rfl ?_
      refine gf_X8_wasSo (pc := 62) hX dX8_walks_62 hX8 (List.mem_of_getElem? (i := 2) rfl) 0 rfl rfl ?_
      refine w_iconst (pc := 65) hX dX8_walks_65 ic_4 ?_
      refine w_iload_n (pc := 66) hX dX8_walks_66 rfl rfl ?_
      refine w_imul (pc := 67) hX dX8_walks_67 ?_
      refine w_iload_n (pc := 68) hX dX8_walks_68 rfl rfl ?_
      refine w_iadd (pc := 69) hX dX8_walks_69 ?_
      refine w_zald (pc := 70) hX dX8_walks_70 11 rfl hm (fun hm => ?_)
      refine w_if_ne (pc := 71) (tgt := 218) hX dX8_walks_71 (by decide) hm (fun hm => ?_) (fun hm => ?_)
      ·
        refine w_iconst (pc := 218) hX dX8_walks_218 ic_0 ?_
        refine w_zret (pc := 219) hX hR dX8_walks_219 hm (fun hm => ?_)
        obtain rfl := som hm
        exact ⟨rfl, rfl⟩
      ·
        refine w_aload_n (pc := 74) hX dX8_walks_74 rfl rfl ?_
        refine gf_X8_wasSo (pc := 75) hX dX8_walks_75 hX8 (List.mem_of_getElem? (i := 2) rfl) 0 rfl rfl ?_
        refine w_iconst (pc := 78) hX dX8_walks_78 ic_4 ?_
        refine w_iload_n (pc := 79) hX dX8_walks_79 rfl rfl ?_
        refine w_imul (pc := 80) hX dX8_walks_80 ?_
        refine w_iload_n (pc := 81) hX dX8_walks_81 rfl rfl ?_
        refine w_iadd (pc := 82) hX dX8_walks_82 ?_
        refine w_iconst (pc := 83) hX dX8_walks_83 ic_1 ?_
        refine w_zast (pc := 84) hX dX8_walks_84 11 rfl hm (fun hm => ?_)
        refine w_aload_n (pc := 85) hX dX8_walks_85 rfl rfl ?_
        refine gf_X8_visits (pc := 86) hX dX8_walks_86 hX8 (List.mem_of_getElem? (i := 1) rfl) 0 rfl rfl ?_
        refine w_iload_n (pc := 89) hX dX8_walks_89 rfl rfl ?_
        refine w_dup2 (pc := 90) hX dX8_walks_90 rfl rfl ?_
        refine w_iald (pc := 91) hX dX8_walks_91 10 rfl hm (fun hm => ?_)
        refine w_iconst (pc := 92) hX dX8_walks_92 ic_1 ?_
        refine w_iadd (pc := 93) hX dX8_walks_93 ?_
        refine w_iast (pc := 94) hX dX8_walks_94 10 rfl hm (fun hm => ?_)
        refine w_iconst (pc := 95) hX dX8_walks_95 ic_m1 ?_
        refine w_istore_n (pc := 96) hX dX8_walks_96 rfl (Nat.le_of_ble_eq_true rfl) ?_
        refine w_iconst (pc := 97) hX dX8_walks_97 ic_0 ?_
        refine w_istore (pc := 98) hX dX8_walks_98 (Nat.le_of_ble_eq_true rfl) ?_
        refine w_jn (T := fun x7 : Int32 => WW G X 0 0 (wX8 G a_t m_s m_begun m_kept m_isKept m_past m_states m_text m_length m_far m_queue m_isOn m_steps m_wayCells m_turns (upd x5.2.2.1 x5.1.toNatClampNeg ((x5.2.2.1 x5.1.toNatClampNeg) + (1 : Int32))) (upd x5.2.2.2 (((4 : Int32) * x5.1) + x5.2.1).toNatClampNeg (vp_nar .boolean (1 : Int32))) m_bestAway m_bestMade m_bestFault m_isHere m_place m_reason m_wide m_high) [some (.ref (a_t 0)), some (.int x5.1), none, some (.int x7), none, none] 200 []) hm (fun x7 hm => ?_) (fun j8 hj8 hm => ?_)
        ·
          unfold mX8_walks_K200 at hm
          refine w_iload_n (pc := 200) hX dX8_walks_200 rfl rfl ?_
          refine w_if_ge (pc := 201) (tgt := 206) hX dX8_walks_201 (by decide) hm (fun hm => ?_) (fun hm => ?_)
          ·
            refine w_aload_n (pc := 206) hX dX8_walks_206 rfl rfl ?_
            refine w_iload_n (pc := 207) hX dX8_walks_207 rfl rfl ?_
            refine w_iload_n (pc := 208) hX dX8_walks_208 rfl rfl ?_
            obtain ⟨r9, hr9, hm⟩ := bnd hm
            refine w_callpi (pc := 209) hX [0, 1, 2, 3, 4, 5, 6, 7, 8, 9, 10, 11, 12] (runV (rest := []) hX [0, 1, 2, 3, 4, 5, 6, 7, 8, 9, 10, 11, 12] (ctX8_besides G a_t m_s m_begun m_kept m_isKept m_past m_states m_text m_length m_far m_queue m_isOn m_steps m_wayCells m_turns (upd x5.2.2.1 x5.1.toNatClampNeg ((x5.2.2.1 x5.1.toNatClampNeg) + (1 : Int32))) (upd x5.2.2.2 (((4 : Int32) * x5.1) + x5.2.1).toNatClampNeg (vp_nar .boolean (1 : Int32))) m_bestAway m_bestMade m_bestFault m_isHere m_place m_reason m_wide m_high x5.1 x7 r9 hr9) dX8_walks_209 2 gX8_walks_X8_besides rfl hyX8_besides ⟨Nat.le_of_ble_eq_true rfl, Nat.le_of_ble_eq_true rfl⟩ 0 rfl rfl rfl rfl (Nat.le_of_ble_eq_true rfl) ⟨Nat.le_of_ble_eq_true rfl, Nat.le_of_ble_eq_true rfl⟩ rfl (by decide +kernel)) rfl ⟨rfl, rfl⟩ ?_
            refine w_istore_n (pc := 212) hX dX8_walks_212 rfl (Nat.le_of_ble_eq_true rfl) ?_
            refine w_iload_n (pc := 213) hX dX8_walks_213 rfl rfl ?_
            refine w_istore_n (pc := 214) hX dX8_walks_214 rfl (Nat.le_of_ble_eq_true rfl) ?_
            refine w_goto (pc := 215) (tgt := 61) hX dX8_walks_215 (by decide) ?_
            exact w_lvs [true, true, true, false, false, false] (hself6 (r9, x7, (upd x5.2.2.1 x5.1.toNatClampNeg ((x5.2.2.1 x5.1.toNatClampNeg) + (1 : Int32))), (upd x5.2.2.2 (((4 : Int32) * x5.1) + x5.2.1).toNatClampNeg (vp_nar .boolean (1 : Int32)))) hm)
          ·
            refine w_iconst (pc := 204) hX dX8_walks_204 ic_0 ?_
            refine w_zret (pc := 205) hX hR dX8_walks_205 hm (fun hm => ?_)
            obtain rfl := som hm
            exact ⟨rfl, rfl⟩
        ·
          refine w_lvs [true, true, true, true, true, false] ?_
          refine lpr_ind (T := fun x10 : (Int32 × Int32) => WW G X 0 0 (wX8 G a_t m_s m_begun m_kept m_isKept m_past m_states m_text m_length m_far m_queue m_isOn m_steps m_wayCells m_turns (upd x5.2.2.1 x5.1.toNatClampNeg ((x5.2.2.1 x5.1.toNatClampNeg) + (1 : Int32))) (upd x5.2.2.2 (((4 : Int32) * x5.1) + x5.2.1).toNatClampNeg (vp_nar .boolean (1 : Int32))) m_bestAway m_bestMade m_bestFault m_isHere m_place m_reason m_wide m_high) [some (.ref (a_t 0)), some (.int x5.1), some (.int x5.2.1), some (.int x10.1), some (.int x10.2), none] 100 []) (fun self11 hself11 x10 hm => ?_) F ((-1 : Int32), (0 : Int32)) hm
          unfold mX8_walks_L100 at hm
          refine w_iload (pc := 100) hX dX8_walks_100 rfl ?_
          refine w_iconst (pc := 102) hX dX8_walks_102 ic_4 ?_
          refine w_icmp_ge (pc := 103) (tgt := 200) hX dX8_walks_103 (by decide) hm (fun hm => ?_) (fun hm => ?_)
          ·
            exact w_lvs [true, true, false, true, false, false] (hj8 x10.1 hm)
          ·
            refine w_iload_n (pc := 106) hX dX8_walks_106 rfl rfl ?_
            refine w_if_ge (pc := 107) (tgt := 200) hX dX8_walks_107 (by decide) hm (fun hm => ?_) (fun hm => ?_)
            ·
              exact w_lvs [true, true, false, true, false, false] (hj8 x10.1 hm)
            ·
              refine w_iload (pc := 110) hX dX8_walks_110 rfl ?_
              refine w_jn (T := fun x12 : Int32 => WW G X 0 0 (wX8 G a_t m_s m_begun m_kept m_isKept m_past m_states m_text m_length m_far m_queue m_isOn m_steps m_wayCells m_turns (upd x5.2.2.1 x5.1.toNatClampNeg ((x5.2.2.1 x5.1.toNatClampNeg) + (1 : Int32))) (upd x5.2.2.2 (((4 : Int32) * x5.1) + x5.2.1).toNatClampNeg (vp_nar .boolean (1 : Int32))) m_bestAway m_bestMade m_bestFault m_isHere m_place m_reason m_wide m_high) [some (.ref (a_t 0)), some (.int x5.1), some (.int x5.2.1), none, some (.int x10.2), none] 152 [.int x12]) hm (fun x12 hm => ?_) (fun j13 hj13 hm => ?_)
              ·
                refine w_istore (pc := 152) hX dX8_walks_152 (Nat.le_of_ble_eq_true rfl) ?_
                refine w_iload_n (pc := 154) hX dX8_walks_154 rfl rfl ?_
                refine w_aload_n (pc := 155) hX dX8_walks_155 rfl rfl ?_
                refine gf_X8_s (pc := 156) hX dX8_walks_156 hX8 (List.mem_of_getElem? (i := 3) rfl) 0 rfl rfl ?_
                refine w_iconst (pc := 159) hX dX8_walks_159 ic_4 ?_
                refine w_iald (pc := 160) hX dX8_walks_160 1 rfl hm (fun hm => ?_)
                refine w_jn (T := fun x14 : Unit => WW G X 0 0 (wX8 G a_t m_s m_begun m_kept m_isKept m_past m_states m_text m_length m_far m_queue m_isOn m_steps m_wayCells m_turns (upd x5.2.2.1 x5.1.toNatClampNeg ((x5.2.2.1 x5.1.toNatClampNeg) + (1 : Int32))) (upd x5.2.2.2 (((4 : Int32) * x5.1) + x5.2.1).toNatClampNeg (vp_nar .boolean (1 : Int32))) m_bestAway m_bestMade m_bestFault m_isHere m_place m_reason m_wide m_high) [some (.ref (a_t 0)), some (.int x5.1), some (.int x5.2.1), none, some (.int x10.2), some (.int x12)] 177 []) hm (fun x14 hm => ?_) (fun j15 hj15 hm => ?_)
                ·
                  refine w_aload_n (pc := 177) hX dX8_walks_177 rfl rfl ?_
                  refine w_iload_n (pc := 178) hX dX8_walks_178 rfl rfl ?_
                  refine w_iload (pc := 179) hX dX8_walks_179 rfl ?_
                  obtain ⟨r16, hr16, hm⟩ := bnd hm
                  refine w_callpi (pc := 181) hX [0, 1, 2, 3, 4, 5, 6, 7, 8, 9, 10, 11, 12] (runV (rest := []) hX [0, 1, 2, 3, 4, 5, 6, 7, 8, 9, 10, 11, 12] (ctX8_isOpen G a_t m_s m_begun m_kept m_isKept m_past m_states m_text m_length m_far m_queue m_isOn m_steps m_wayCells m_turns (upd x5.2.2.1 x5.1.toNatClampNeg ((x5.2.2.1 x5.1.toNatClampNeg) + (1 : Int32))) (upd x5.2.2.2 (((4 : Int32) * x5.1) + x5.2.1).toNatClampNeg (vp_nar .boolean (1 : Int32))) m_bestAway m_bestMade m_bestFault m_isHere m_place m_reason m_wide m_high x5.1 x12 r16 hr16) dX8_walks_181 2 gX8_walks_X8_isOpen rfl hyX8_isOpen ⟨Nat.le_of_ble_eq_true rfl, Nat.le_of_ble_eq_true rfl⟩ 0 rfl rfl rfl rfl (Nat.le_of_ble_eq_true rfl) ⟨Nat.le_of_ble_eq_true rfl, Nat.le_of_ble_eq_true rfl⟩ rfl (by decide +kernel)) rfl ⟨rfl, rfl⟩ ?_
                  refine w_jn (T := fun x17 : Int32 => WW G X 0 0 (wX8 G a_t m_s m_begun m_kept m_isKept m_past m_states m_text m_length m_far m_queue m_isOn m_steps m_wayCells m_turns (upd x5.2.2.1 x5.1.toNatClampNeg ((x5.2.2.1 x5.1.toNatClampNeg) + (1 : Int32))) (upd x5.2.2.2 (((4 : Int32) * x5.1) + x5.2.1).toNatClampNeg (vp_nar .boolean (1 : Int32))) m_bestAway m_bestMade m_bestFault m_isHere m_place m_reason m_wide m_high) [some (.ref (a_t 0)), some (.int x5.1), some (.int x5.2.1), none, some (.int x10.2), none] 193 [.int x17]) hm (fun x17 hm => ?_) (fun j18 hj18 hm => ?_)
                  ·
                    refine w_istore_n (pc := 193) hX dX8_walks_193 rfl (Nat.le_of_ble_eq_true rfl) ?_
                    refine w_iinc (pc := 194) hX dX8_walks_194 rfl (Nat.le_of_ble_eq_true rfl) ic_1 ?_
                    refine w_goto (pc := 197) (tgt := 100) hX dX8_walks_197 (by decide) ?_
                    exact w_lvs [true, true, true, true, true, false] (hself11 (x17, x10.2 + (1 : Int32)) hm)
                  ·
                    refine w_if_eq (pc := 184) (tgt := 192) hX dX8_walks_184 (by decide) hm (fun hm => ?_) (fun hm => ?_)
                    ·
                      refine w_iconst (pc := 192) hX dX8_walks_192 ic_m1 ?_
                      exact w_lvs [true, true, true, false, true, false] (hj18 (-1 : Int32) hm)
                    ·
                      refine w_iload (pc := 187) hX dX8_walks_187 rfl ?_
                      refine w_goto (pc := 189) (tgt := 193) hX dX8_walks_189 (by decide) ?_
                      exact w_lvs [true, true, true, false, true, false] (hj18 x12 hm)
                ·
                  refine w_icmp_ne (pc := 161) (tgt := 177) hX dX8_walks_161 (by decide) hm (fun hm => ?_) (fun hm => ?_)
                  ·
                    exact w_lvs [true, true, true, false, true, true] (hj15 () hm)
                  ·
                    refine w_iload (pc := 164) hX dX8_walks_164 rfl ?_
                    refine w_aload_n (pc := 166) hX dX8_walks_166 rfl rfl ?_
                    refine gf_X8_s (pc := 167) hX dX8_walks_167 hX8 (List.mem_of_getElem? (i := 3) rfl) 0 rfl rfl ?_
                    refine w_iconst (pc := 170) hX dX8_walks_170 ic_5 ?_
                    refine w_iald (pc := 171) hX dX8_walks_171 1 rfl hm (fun hm => ?_)
                    refine w_icmp_ne (pc := 172) (tgt := 177) hX dX8_walks_172 (by decide) hm (fun hm => ?_) (fun hm => ?_)
                    ·
                      exact w_lvs [true, true, true, false, true, true] (hj15 () hm)
                    ·
                      refine w_iconst (pc := 175) hX dX8_walks_175 ic_1 ?_
                      refine w_zret (pc := 176) hX hR dX8_walks_176 hm (fun hm => ?_)
                      obtain rfl := som hm
                      exact ⟨rfl, rfl⟩
              ·
                refine w_if_ne (pc := 112) (tgt := 123) hX dX8_walks_112 (by decide) hm (fun hm => ?_) (fun hm => ?_)
                ·
                  refine w_iload (pc := 123) hX dX8_walks_123 rfl ?_
                  refine w_iconst (pc := 125) hX dX8_walks_125 ic_1 ?_
                  refine w_icmp_ne (pc := 126) (tgt := 133) hX dX8_walks_126 (by decide) hm (fun hm => ?_) (fun hm => ?_)
                  ·
                    refine w_iload (pc := 133) hX dX8_walks_133 rfl ?_
                    refine w_iconst (pc := 135) hX dX8_walks_135 ic_2 ?_
                    refine w_icmp_ne (pc := 136) (tgt := 147) hX dX8_walks_136 (by decide) hm (fun hm => ?_) (fun hm => ?_)
                    ·
                      refine w_iload_n (pc := 147) hX dX8_walks_147 rfl rfl ?_
                      refine w_iconst (pc := 148) hX dX8_walks_148 ic_2 ?_
                      refine w_iadd (pc := 149) hX dX8_walks_149 ?_
                      refine w_iconst (pc := 150) hX dX8_walks_150 ic_4 ?_
                      refine w_irem (pc := 151) hX dX8_walks_151 hm (fun hm => ?_)
                      exact w_lvs [true, true, true, false, true, false] (hj13 ((x5.2.1 + (2 : Int32)) - (x5.2.1 + (2 : Int32)) / (4 : Int32) * (4 : Int32)) hm)
                    ·
                      refine w_iload_n (pc := 139) hX dX8_walks_139 rfl rfl ?_
                      refine w_iconst (pc := 140) hX dX8_walks_140 ic_3 ?_
                      refine w_iadd (pc := 141) hX dX8_walks_141 ?_
                      refine w_iconst (pc := 142) hX dX8_walks_142 ic_4 ?_
                      refine w_irem (pc := 143) hX dX8_walks_143 hm (fun hm => ?_)
                      refine w_goto (pc := 144) (tgt := 152) hX dX8_walks_144 (by decide) ?_
                      exact w_lvs [true, true, true, false, true, false] (hj13 ((x5.2.1 + (3 : Int32)) - (x5.2.1 + (3 : Int32)) / (4 : Int32) * (4 : Int32)) hm)
                  ·
                    refine w_iload_n (pc := 129) hX dX8_walks_129 rfl rfl ?_
                    refine w_goto (pc := 130) (tgt := 152) hX dX8_walks_130 (by decide) ?_
                    exact w_lvs [true, true, true, false, true, false] (hj13 x5.2.1 hm)
                ·
                  refine w_iload_n (pc := 115) hX dX8_walks_115 rfl rfl ?_
                  refine w_iconst (pc := 116) hX dX8_walks_116 ic_1 ?_
                  refine w_iadd (pc := 117) hX dX8_walks_117 ?_
                  refine w_iconst (pc := 118) hX dX8_walks_118 ic_4 ?_
                  refine w_irem (pc := 119) hX dX8_walks_119 hm (fun hm => ?_)
                  refine w_goto (pc := 120) (tgt := 152) hX dX8_walks_120 (by decide) ?_
                  exact w_lvs [true, true, true, false, true, false] (hj13 ((x5.2.1 + (1 : Int32)) - (x5.2.1 + (1 : Int32)) / (4 : Int32) * (4 : Int32)) hm)
    ·
      refine w_lvs [true, true, false, false, false, false] ?_
      refine lpr_ind (T := fun x19 : (Int32 × nF) => WW G X 0 0 (wX8 G a_t m_s m_begun m_kept m_isKept m_past m_states m_text m_length m_far m_queue m_isOn m_steps m_wayCells m_turns x1 x19.2 m_bestAway m_bestMade m_bestFault m_isHere m_place m_reason m_wide m_high) [some (.ref (a_t 0)), some (.int x19.1), none, none, none, none] 23 []) (fun self20 hself20 x19 hm => ?_) F ((0 : Int32), m_wasSo) hm
      unfold mX8_walks_L23 at hm
      refine w_iload_n (pc := 23) hX dX8_walks_23 rfl rfl ?_
      refine w_sipush (pc := 24) hX dX8_walks_24 sp_144 ?_
      refine w_icmp_ge (pc := 27) (tgt := 43) hX dX8_walks_27 (by decide) hm (fun hm => ?_) (fun hm => ?_)
      ·
        exact w_lvs [true, false, false, false, false, false] (hj4 x19.2 hm)
      ·
        refine w_aload_n (pc := 30) hX dX8_walks_30 rfl rfl ?_
        refine gf_X8_wasSo (pc := 31) hX dX8_walks_31 hX8 (List.mem_of_getElem? (i := 2) rfl) 0 rfl rfl ?_
        refine w_iload_n (pc := 34) hX dX8_walks_34 rfl rfl ?_
        refine w_iconst (pc := 35) hX dX8_walks_35 ic_0 ?_
        refine w_zast (pc := 36) hX dX8_walks_36 11 rfl hm (fun hm => ?_)
        refine w_iinc (pc := 37) hX dX8_walks_37 rfl (Nat.le_of_ble_eq_true rfl) ic_1 ?_
        refine w_goto (pc := 40) (tgt := 23) hX dX8_walks_40 (by decide) ?_
        exact w_lvs [true, true, false, false, false, false] (hself20 (x19.1 + (1 : Int32), (upd x19.2 x19.1.toNatClampNeg (vp_nar .boolean (0 : Int32)))) hm)
  ·
    refine w_lvs [true, true, false, false, false, false] ?_
    refine lpr_ind (T := fun x21 : (Int32 × nF) => WW G X 0 0 (wX8 G a_t m_s m_begun m_kept m_isKept m_past m_states m_text m_length m_far m_queue m_isOn m_steps m_wayCells m_turns x21.2 m_wasSo m_bestAway m_bestMade m_bestFault m_isHere m_place m_reason m_wide m_high) [some (.ref (a_t 0)), some (.int x21.1), none, none, none, none] 2 []) (fun self22 hself22 x21 hm => ?_) F ((0 : Int32), m_visits) hm
    unfold mX8_walks_L2 at hm
    refine w_iload_n (pc := 2) hX dX8_walks_2 rfl rfl ?_
    refine w_bipush (pc := 3) hX dX8_walks_3 bp_36 ?_
    refine w_icmp_ge (pc := 5) (tgt := 21) hX dX8_walks_5 (by decide) hm (fun hm => ?_) (fun hm => ?_)
    ·
      exact w_lvs [true, false, false, false, false, false] (hj2 x21.2 hm)
    ·
      refine w_aload_n (pc := 8) hX dX8_walks_8 rfl rfl ?_
      refine gf_X8_visits (pc := 9) hX dX8_walks_9 hX8 (List.mem_of_getElem? (i := 1) rfl) 0 rfl rfl ?_
      refine w_iload_n (pc := 12) hX dX8_walks_12 rfl rfl ?_
      refine w_iconst (pc := 13) hX dX8_walks_13 ic_0 ?_
      refine w_iast (pc := 14) hX dX8_walks_14 10 rfl hm (fun hm => ?_)
      refine w_iinc (pc := 15) hX dX8_walks_15 rfl (Nat.le_of_ble_eq_true rfl) ic_1 ?_
      refine w_goto (pc := 18) (tgt := 2) hX dX8_walks_18 (by decide) ?_
      exact w_lvs [true, true, false, false, false, false] (hself22 (x21.1 + (1 : Int32), (upd x21.2 x21.1.toNatClampNeg (0 : Int32))) hm)

theorem lX8_walkCells_X8 : ∀ w ∈ wsX80, w ∈ wsX8_walkCells := in_at [8, 9, 10, 11, 12, 13, 14, 15, 16, 17, 18, 19, 20, 21, 22, 23, 24, 25, 26, 27, 28, 29, 30, 31] (by decide +kernel)
set_option maxHeartbeats 4000000 in
set_option maxRecDepth 100000 in
theorem ctX8_walkCells (G : gT) (F : Nat) (a_t : Nat → Nat) (m_s : nF) (m_begun : nF) (m_kept : nF) (m_isKept : Int32) (m_past : nF) (m_states : Int32) (m_text : nF) (m_length : Int32) (m_far : nF) (m_queue : nF) (m_isOn : nF) (m_steps : nF) (m_wayCells : Int32) (m_turns : Int32) (m_visits : nF) (m_wasSo : nF) (m_bestAway : Int32) (m_bestMade : Int32) (m_bestFault : Int32) (m_isHere : nF) (m_place : Int32) (m_reason : Int32) (m_wide : Int32) (m_high : Int32) (o : Int32) (hm : mX8_walkCells F m_s m_visits = some o) : CT G yX8_walkCells wsX8_walkCells rmX8_walkCells [.ref (a_t 0)] (wX8 G a_t m_s m_begun m_kept m_isKept m_past m_states m_text m_length m_far m_queue m_isOn m_steps m_wayCells m_turns m_visits m_wasSo m_bestAway m_bestMade m_bestFault m_isHere m_place m_reason m_wide m_high) (fun v w => v = some (.int o) ∧ w = wX8 G a_t m_s m_begun m_kept m_isKept m_past m_states m_text m_length m_far m_queue m_isOn m_steps m_wayCells m_turns m_visits m_wasSo m_bestAway m_bestMade m_bestFault m_isHere m_place m_reason m_wide m_high) := by
  refine CT_of (cc := cX8_walkCells) (maxL := 3) (ret := (some .int)) 2 (by decide +kernel) rfl rfl (cat_ok rfl) (fun X hX hR hN => ?_)
  have hX : Ok G X cX8_walkCells RX8 wsX8_walkCells 3 rmX8_walkCells := hX
  have hX8 : ∀ w ∈ wsX80, w ∈ wsX8_walkCells := lX8_walkCells_X8
  unfold mX8_walkCells at hm
  refine w_iconst (pc := 0) hX dX8_walkCells_0 ic_0 ?_
  refine w_istore_n (pc := 1) hX dX8_walkCells_1 rfl (Nat.le_of_ble_eq_true rfl) ?_
  refine w_iconst (pc := 2) hX dX8_walkCells_2 ic_0 ?_
  refine w_istore_n (pc := 3) hX dX8_walkCells_3 rfl (Nat.le_of_ble_eq_true rfl) ?_
  refine w_lvs [true, true, true] ?_
  refine lpr_ind (T := fun x1 : (Int32 × Int32) => WW G X 0 0 (wX8 G a_t m_s m_begun m_kept m_isKept m_past m_states m_text m_length m_far m_queue m_isOn m_steps m_wayCells m_turns m_visits m_wasSo m_bestAway m_bestMade m_bestFault m_isHere m_place m_reason m_wide m_high) [some (.ref (a_t 0)), some (.int x1.1), some (.int x1.2)] 4 []) (fun self2 hself2 x1 hm => ?_) F ((0 : Int32), (0 : Int32)) hm
  unfold mX8_walkCells_L4 at hm
  refine w_iload_n (pc := 4) hX dX8_walkCells_4 rfl rfl ?_
  refine w_aload_n (pc := 5) hX dX8_walkCells_5 rfl rfl ?_
  obtain ⟨r3, hr3, hm⟩ := bnd hm
  refine w_callpi (pc := 6) hX [0, 1, 2, 3, 4, 5, 6, 7, 8, 9, 10, 11, 12] (runV (rest := [.int x1.2]) hX [0, 1, 2, 3, 4, 5, 6, 7, 8, 9, 10, 11, 12] (ctX8_cells G a_t m_s m_begun m_kept m_isKept m_past m_states m_text m_length m_far m_queue m_isOn m_steps m_wayCells m_turns m_visits m_wasSo m_bestAway m_bestMade m_bestFault m_isHere m_place m_reason m_wide m_high r3 hr3) dX8_walkCells_6 0 gX8_walkCells_X8_cells rfl hyX8_cells ⟨Nat.le_of_ble_eq_true rfl, Nat.le_of_ble_eq_true rfl⟩ 0 rfl rfl rfl rfl (Nat.le_of_ble_eq_true rfl) ⟨Nat.le_of_ble_eq_true rfl, Nat.le_of_ble_eq_true rfl⟩ rfl (by decide +kernel)) rfl ⟨rfl, rfl⟩ ?_
  refine w_icmp_ge (pc := 9) (tgt := 27) hX dX8_walkCells_9 (by decide) hm (fun hm => ?_) (fun hm => ?_)
  ·
    refine w_iload_n (pc := 27) hX dX8_walkCells_27 rfl rfl ?_
    obtain rfl := som hm
    exact w_iret (pc := 28) hX hR dX8_walkCells_28 ⟨rfl, rfl⟩
  ·
    refine w_iload_n (pc := 12) hX dX8_walkCells_12 rfl rfl ?_
    refine w_aload_n (pc := 13) hX dX8_walkCells_13 rfl rfl ?_
    refine gf_X8_visits (pc := 14) hX dX8_walkCells_14 hX8 (List.mem_of_getElem? (i := 1) rfl) 0 rfl rfl ?_
    refine w_iload_n (pc := 17) hX dX8_walkCells_17 rfl rfl ?_
    refine w_iald (pc := 18) hX dX8_walkCells_18 10 rfl hm (fun hm => ?_)
    refine w_iadd (pc := 19) hX dX8_walkCells_19 ?_
    refine w_istore_n (pc := 20) hX dX8_walkCells_20 rfl (Nat.le_of_ble_eq_true rfl) ?_
    refine w_iinc (pc := 21) hX dX8_walkCells_21 rfl (Nat.le_of_ble_eq_true rfl) ic_1 ?_
    refine w_goto (pc := 24) (tgt := 4) hX dX8_walkCells_24 (by decide) ?_
    exact w_lvs [true, true, true] (hself2 (x1.1 + (m_visits x1.2.toNatClampNeg), x1.2 + (1 : Int32)) hm)

theorem lX8_walkFault_X8 : ∀ w ∈ wsX80, w ∈ wsX8_walkFault := in_at [8, 9, 10, 11, 12, 13, 14, 15, 16, 17, 18, 19, 20, 21, 22, 23, 24, 25, 26, 27, 28, 29, 30, 31] (by decide +kernel)
set_option maxHeartbeats 4000000 in
set_option maxRecDepth 100000 in
theorem ctX8_walkFault (G : gT) (F : Nat) (a_t : Nat → Nat) (m_s : nF) (m_begun : nF) (m_kept : nF) (m_isKept : Int32) (m_past : nF) (m_states : Int32) (m_text : nF) (m_length : Int32) (m_far : nF) (m_queue : nF) (m_isOn : nF) (m_steps : nF) (m_wayCells : Int32) (m_turns : Int32) (m_visits : nF) (m_wasSo : nF) (m_bestAway : Int32) (m_bestMade : Int32) (m_bestFault : Int32) (m_isHere : nF) (m_place : Int32) (m_reason : Int32) (m_wide : Int32) (m_high : Int32) (o : Int32) (hm : mX8_walkFault F m_s m_visits = some o) : CT G yX8_walkFault wsX8_walkFault rmX8_walkFault [.ref (a_t 0)] (wX8 G a_t m_s m_begun m_kept m_isKept m_past m_states m_text m_length m_far m_queue m_isOn m_steps m_wayCells m_turns m_visits m_wasSo m_bestAway m_bestMade m_bestFault m_isHere m_place m_reason m_wide m_high) (fun v w => v = some (.int o) ∧ w = wX8 G a_t m_s m_begun m_kept m_isKept m_past m_states m_text m_length m_far m_queue m_isOn m_steps m_wayCells m_turns m_visits m_wasSo m_bestAway m_bestMade m_bestFault m_isHere m_place m_reason m_wide m_high) := by
  refine CT_of (cc := cX8_walkFault) (maxL := 4) (ret := (some .int)) 3 (by decide +kernel) rfl rfl (cat_ok rfl) (fun X hX hR hN => ?_)
  have hX : Ok G X cX8_walkFault RX8 wsX8_walkFault 4 rmX8_walkFault := hX
  have hX8 : ∀ w ∈ wsX80, w ∈ wsX8_walkFault := lX8_walkFault_X8
  unfold mX8_walkFault at hm
  refine w_iconst (pc := 0) hX dX8_walkFault_0 ic_0 ?_
  refine w_istore_n (pc := 1) hX dX8_walkFault_1 rfl (Nat.le_of_ble_eq_true rfl) ?_
  refine w_iconst (pc := 2) hX dX8_walkFault_2 ic_0 ?_
  refine w_istore_n (pc := 3) hX dX8_walkFault_3 rfl (Nat.le_of_ble_eq_true rfl) ?_
  refine w_lvs [true, true, true, false] ?_
  refine lpr_ind (T := fun x1 : (Int32 × Int32) => WW G X 0 0 (wX8 G a_t m_s m_begun m_kept m_isKept m_past m_states m_text m_length m_far m_queue m_isOn m_steps m_wayCells m_turns m_visits m_wasSo m_bestAway m_bestMade m_bestFault m_isHere m_place m_reason m_wide m_high) [some (.ref (a_t 0)), some (.int x1.1), some (.int x1.2), none] 4 []) (fun self2 hself2 x1 hm => ?_) F ((0 : Int32), (0 : Int32)) hm
  unfold mX8_walkFault_L4 at hm
  refine w_iload_n (pc := 4) hX dX8_walkFault_4 rfl rfl ?_
  refine w_aload_n (pc := 5) hX dX8_walkFault_5 rfl rfl ?_
  obtain ⟨r3, hr3, hm⟩ := bnd hm
  refine w_callpi (pc := 6) hX [0, 1, 2, 3, 4, 5, 6, 7, 8, 9, 10, 11, 12] (runV (rest := [.int x1.2]) hX [0, 1, 2, 3, 4, 5, 6, 7, 8, 9, 10, 11, 12] (ctX8_cells G a_t m_s m_begun m_kept m_isKept m_past m_states m_text m_length m_far m_queue m_isOn m_steps m_wayCells m_turns m_visits m_wasSo m_bestAway m_bestMade m_bestFault m_isHere m_place m_reason m_wide m_high r3 hr3) dX8_walkFault_6 0 gX8_walkFault_X8_cells rfl hyX8_cells ⟨Nat.le_of_ble_eq_true rfl, Nat.le_of_ble_eq_true rfl⟩ 0 rfl rfl rfl rfl (Nat.le_of_ble_eq_true rfl) ⟨Nat.le_of_ble_eq_true rfl, Nat.le_of_ble_eq_true rfl⟩ rfl (by decide +kernel)) rfl ⟨rfl, rfl⟩ ?_
  refine w_icmp_ge (pc := 9) (tgt := 86) hX dX8_walkFault_9 (by decide) hm (fun hm => ?_) (fun hm => ?_)
  ·
    refine w_iload_n (pc := 86) hX dX8_walkFault_86 rfl rfl ?_
    obtain rfl := som hm
    exact w_iret (pc := 87) hX hR dX8_walkFault_87 ⟨rfl, rfl⟩
  ·
    refine w_iconst (pc := 12) hX dX8_walkFault_12 ic_3 ?_
    refine w_aload_n (pc := 13) hX dX8_walkFault_13 rfl rfl ?_
    refine gf_X8_visits (pc := 14) hX dX8_walkFault_14 hX8 (List.mem_of_getElem? (i := 1) rfl) 0 rfl rfl ?_
    refine w_iload_n (pc := 17) hX dX8_walkFault_17 rfl rfl ?_
    refine w_iald (pc := 18) hX dX8_walkFault_18 10 rfl hm (fun hm => ?_)
    refine w_imul (pc := 19) hX dX8_walkFault_19 ?_
    refine w_bipush (pc := 20) hX dX8_walkFault_20 bp_9 ?_
    refine w_jn (T := fun x4 : Int32 => WW G X 0 0 (wX8 G a_t m_s m_begun m_kept m_isKept m_past m_states m_text m_length m_far m_queue m_isOn m_steps m_wayCells m_turns m_visits m_wasSo m_bestAway m_bestMade m_bestFault m_isHere m_place m_reason m_wide m_high) [some (.ref (a_t 0)), some (.int x1.1), some (.int x1.2), none] 38 [.int x4]) hm (fun x4 hm => ?_) (fun j5 hj5 hm => ?_)
    ·
      refine w_istore_n (pc := 38) hX dX8_walkFault_38 rfl (Nat.le_of_ble_eq_true rfl) ?_
      refine w_iload_n (pc := 39) hX dX8_walkFault_39 rfl rfl ?_
      refine w_iload_n (pc := 40) hX dX8_walkFault_40 rfl rfl ?_
      refine w_aload_n (pc := 41) hX dX8_walkFault_41 rfl rfl ?_
      refine gf_X8_s (pc := 42) hX dX8_walkFault_42 hX8 (List.mem_of_getElem? (i := 2) rfl) 0 rfl rfl ?_
      refine w_bipush (pc := 45) hX dX8_walkFault_45 bp_6 ?_
      refine w_iload_n (pc := 47) hX dX8_walkFault_47 rfl rfl ?_
      refine w_iadd (pc := 48) hX dX8_walkFault_48 ?_
      refine w_iald (pc := 49) hX dX8_walkFault_49 1 rfl hm (fun hm => ?_)
      refine w_jn (T := fun x6 : Int32 => WW G X 0 0 (wX8 G a_t m_s m_begun m_kept m_isKept m_past m_states m_text m_length m_far m_queue m_isOn m_steps m_wayCells m_turns m_visits m_wasSo m_bestAway m_bestMade m_bestFault m_isHere m_place m_reason m_wide m_high) [some (.ref (a_t 0)), none, some (.int x1.2), none] 78 [.int x6, .int x1.1]) hm (fun x6 hm => ?_) (fun j7 hj7 hm => ?_)
      ·
        refine w_iadd (pc := 78) hX dX8_walkFault_78 ?_
        refine w_istore_n (pc := 79) hX dX8_walkFault_79 rfl (Nat.le_of_ble_eq_true rfl) ?_
        refine w_iinc (pc := 80) hX dX8_walkFault_80 rfl (Nat.le_of_ble_eq_true rfl) ic_1 ?_
        refine w_goto (pc := 83) (tgt := 4) hX dX8_walkFault_83 (by decide) ?_
        exact w_lvs [true, true, true, false] (hself2 (x1.1 + x6, x1.2 + (1 : Int32)) hm)
      ·
        refine w_icmp_le (pc := 50) (tgt := 67) hX dX8_walkFault_50 (by decide) hm (fun hm => ?_) (fun hm => ?_)
        ·
          refine w_aload_n (pc := 67) hX dX8_walkFault_67 rfl rfl ?_
          refine gf_X8_s (pc := 68) hX dX8_walkFault_68 hX8 (List.mem_of_getElem? (i := 2) rfl) 0 rfl rfl ?_
          refine w_bipush (pc := 71) hX dX8_walkFault_71 bp_6 ?_
          refine w_iload_n (pc := 73) hX dX8_walkFault_73 rfl rfl ?_
          refine w_iadd (pc := 74) hX dX8_walkFault_74 ?_
          refine w_iald (pc := 75) hX dX8_walkFault_75 1 rfl hm (fun hm => ?_)
          refine w_iload_n (pc := 76) hX dX8_walkFault_76 rfl rfl ?_
          refine w_isub (pc := 77) hX dX8_walkFault_77 ?_
          exact w_lvs [true, false, true, false] (hj7 ((m_s ((6 : Int32) + x1.2).toNatClampNeg) - x4) hm)
        ·
          refine w_iload_n (pc := 53) hX dX8_walkFault_53 rfl rfl ?_
          refine w_aload_n (pc := 54) hX dX8_walkFault_54 rfl rfl ?_
          refine gf_X8_s (pc := 55) hX dX8_walkFault_55 hX8 (List.mem_of_getElem? (i := 2) rfl) 0 rfl rfl ?_
          refine w_bipush (pc := 58) hX dX8_walkFault_58 bp_6 ?_
          refine w_iload_n (pc := 60) hX dX8_walkFault_60 rfl rfl ?_
          refine w_iadd (pc := 61) hX dX8_walkFault_61 ?_
          refine w_iald (pc := 62) hX dX8_walkFault_62 1 rfl hm (fun hm => ?_)
          refine w_isub (pc := 63) hX dX8_walkFault_63 ?_
          refine w_goto (pc := 64) (tgt := 78) hX dX8_walkFault_64 (by decide) ?_
          exact w_lvs [true, false, true, false] (hj7 (x4 - (m_s ((6 : Int32) + x1.2).toNatClampNeg)) hm)
    ·
      refine w_icmp_le (pc := 22) (tgt := 30) hX dX8_walkFault_22 (by decide) hm (fun hm => ?_) (fun hm => ?_)
      ·
        refine w_iconst (pc := 30) hX dX8_walkFault_30 ic_3 ?_
        refine w_aload_n (pc := 31) hX dX8_walkFault_31 rfl rfl ?_
        refine gf_X8_visits (pc := 32) hX dX8_walkFault_32 hX8 (List.mem_of_getElem? (i := 1) rfl) 0 rfl rfl ?_
        refine w_iload_n (pc := 35) hX dX8_walkFault_35 rfl rfl ?_
        refine w_iald (pc := 36) hX dX8_walkFault_36 10 rfl hm (fun hm => ?_)
        refine w_imul (pc := 37) hX dX8_walkFault_37 ?_
        exact w_lvs [true, true, true, false] (hj5 ((3 : Int32) * (m_visits x1.2.toNatClampNeg)) hm)
      ·
        refine w_bipush (pc := 25) hX dX8_walkFault_25 bp_9 ?_
        refine w_goto (pc := 27) (tgt := 38) hX dX8_walkFault_27 (by decide) ?_
        exact w_lvs [true, true, true, false] (hj5 (9 : Int32) hm)
