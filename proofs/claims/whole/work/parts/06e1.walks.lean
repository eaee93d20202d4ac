/-! WALKS, printed by wip/whole/gen.py -/
theorem lX8_lightens_X8 : ∀ w ∈ wsX80, w ∈ wsX8_lightens := in_at [2, 3, 4, 5, 6, 7, 8, 9, 10, 11, 12, 13, 14, 15, 16, 17, 18, 19, 20, 21, 22, 23, 24, 25] (by decide +kernel)
set_option maxHeartbeats 4000000 in
set_option maxRecDepth 100000 in
theorem ctX8_lightens (G : gT) (F : Nat) (a_t : Nat → Nat) (m_s : nF) (m_begun : nF) (m_kept : nF) (m_isKept : Int32) (m_past : nF) (m_states : Int32) (m_text : nF) (m_length : Int32) (m_far : nF) (m_queue : nF) (m_isOn : nF) (m_steps : nF) (m_wayCells : Int32) (m_turns : Int32) (m_visits : nF) (m_wasSo : nF) (m_bestAway : Int32) (m_bestMade : Int32) (m_bestFault : Int32) (m_isHere : nF) (m_place : Int32) (m_reason : Int32) (m_wide : Int32) (m_high : Int32) (g1 : Int32) (g2 : Int32) (o : nF) (hm : mX8_lightens F m_s g1 g2 = some o) : CT G yX8_lightens wsX8_lightens rmX8_lightens [.ref (a_t 0), .int g1, .int g2] (wX8 G a_t m_s m_begun m_kept m_isKept m_past m_states m_text m_length m_far m_queue m_isOn m_steps m_wayCells m_turns m_visits m_wasSo m_bestAway m_bestMade m_bestFault m_isHere m_place m_reason m_wide m_high) (fun v w => v = none ∧ w = wX8 G a_t o m_begun m_kept m_isKept m_past m_states m_text m_length m_far m_queue m_isOn m_steps m_wayCells m_turns m_visits m_wasSo m_bestAway m_bestMade m_bestFault m_isHere m_place m_reason m_wide m_high) := by
  refine CT_of (cc := cX8_lightens) (maxL := 4) (ret := none) 1 (by decide +kernel) rfl rfl (cat_ok rfl) (fun X hX hR hN => ?_)
  have hX : Ok G X cX8_lightens RX8 wsX8_lightens 4 rmX8_lightens := hX
  have hX8 : ∀ w ∈ wsX80, w ∈ wsX8_lightens := lX8_lightens_X8
  unfold mX8_lightens at hm
  refine w_iconst (pc := 0) hX dX8_lightens_0 ic_0 ?_
  refine w_istore_n (pc := 1) hX dX8_lightens_1 rfl (Nat.le_of_ble_eq_true rfl) ?_
  refine w_jn (T := fun x1 : nF => WW G X 0 0 (wX8 G a_t x1 m_begun m_kept m_isKept m_past m_states m_text m_length m_far m_queue m_isOn m_steps m_wayCells m_turns m_visits m_wasSo m_bestAway m_bestMade m_bestFault m_isHere m_place m_reason m_wide m_high) [some (.ref (a_t 0)), some (.int g1), some (.int g2), none] 21 []) hm (fun x1 hm => ?_) (fun j2 hj2 hm => ?_)
  ·
    unfold mX8_lightens_K21 at hm
    refine w_aload_n (pc := 21) hX dX8_lightens_21 rfl rfl ?_
    refine gf_X8_s (pc := 22) hX dX8_lightens_22 hX8 (List.mem_of_getElem? (i := 1) rfl) 0 rfl rfl ?_
    refine w_iconst (pc := 25) hX dX8_lightens_25 ic_0 ?_
    refine w_iload_n (pc := 26) hX dX8_lightens_26 rfl rfl ?_
    refine w_iast (pc := 27) hX dX8_lightens_27 1 rfl hm (fun hm => ?_)
    refine w_aload_n (pc := 28) hX dX8_lightens_28 rfl rfl ?_
    refine gf_X8_s (pc := 29) hX dX8_lightens_29 hX8 (List.mem_of_getElem? (i := 1) rfl) 0 rfl rfl ?_
    refine w_iconst (pc := 32) hX dX8_lightens_32 ic_1 ?_
    refine w_iload_n (pc := 33) hX dX8_lightens_33 rfl rfl ?_
    refine w_iast (pc := 34) hX dX8_lightens_34 1 rfl hm (fun hm => ?_)
    refine w_aload_n (pc := 35) hX dX8_lightens_35 rfl rfl ?_
    refine gf_X8_s (pc := 36) hX dX8_lightens_36 hX8 (List.mem_of_getElem? (i := 1) rfl) 0 rfl rfl ?_
    refine w_iconst (pc := 39) hX dX8_lightens_39 ic_3 ?_
    refine w_iconst (pc := 40) hX dX8_lightens_40 ic_3 ?_
    refine w_iast (pc := 41) hX dX8_lightens_41 1 rfl hm (fun hm => ?_)
    refine w_aload_n (pc := 42) hX dX8_lightens_42 rfl rfl ?_
    refine gf_X8_s (pc := 43) hX dX8_lightens_43 hX8 (List.mem_of_getElem? (i := 1) rfl) 0 rfl rfl ?_
    refine w_iconst (pc := 46) hX dX8_lightens_46 ic_4 ?_
    refine w_iload_n (pc := 47) hX dX8_lightens_47 rfl rfl ?_
    refine w_iload_n (pc := 48) hX dX8_lightens_48 rfl rfl ?_
    refine w_imul (pc := 49) hX dX8_lightens_49 ?_
    refine w_iconst (pc := 50) hX dX8_lightens_50 ic_1 ?_
    refine w_isub (pc := 51) hX dX8_lightens_51 ?_
    refine w_iast (pc := 52) hX dX8_lightens_52 1 rfl hm (fun hm => ?_)
    refine w_aload_n (pc := 53) hX dX8_lightens_53 rfl rfl ?_
    refine gf_X8_s (pc := 54) hX dX8_lightens_54 hX8 (List.mem_of_getElem? (i := 1) rfl) 0 rfl rfl ?_
    refine w_iconst (pc := 57) hX dX8_lightens_57 ic_5 ?_
    refine w_iconst (pc := 58) hX dX8_lightens_58 ic_1 ?_
    refine w_iast (pc := 59) hX dX8_lightens_59 1 rfl hm (fun hm => ?_)
    obtain rfl := som hm
    exact w_vret (pc := 60) hX hR dX8_lightens_60 ⟨rfl, rfl⟩
  ·
    refine w_lvs [true, true, true, true] ?_
    refine lpr_ind (T := fun x3 : (Int32 × nF) => WW G X 0 0 (wX8 G a_t x3.2 m_begun m_kept m_isKept m_past m_states m_text m_length m_far m_queue m_isOn m_steps m_wayCells m_turns m_visits m_wasSo m_bestAway m_bestMade m_bestFault m_isHere m_place m_reason m_wide m_high) [some (.ref (a_t 0)), some (.int g1), some (.int g2), some (.int x3.1)] 2 []) (fun self4 hself4 x3 hm => ?_) F ((0 : Int32), m_s) hm
    unfold mX8_lightens_L2 at hm
    refine w_iload_n (pc := 2) hX dX8_lightens_2 rfl rfl ?_
    refine w_bipush (pc := 3) hX dX8_lightens_3 bp_114 ?_
    refine w_icmp_ge (pc := 5) (tgt := 21) hX dX8_lightens_5 (by decide) hm (fun hm => ?_) (fun hm => ?_)
    ·
      exact w_lvs [true, true, true, false] (hj2 x3.2 hm)
    ·
      refine w_aload_n (pc := 8) hX dX8_lightens_8 rfl rfl ?_
      refine gf_X8_s (pc := 9) hX dX8_lightens_9 hX8 (List.mem_of_getElem? (i := 1) rfl) 0 rfl rfl ?_
      refine w_iload_n (pc := 12) hX dX8_lightens_12 rfl rfl ?_
      refine w_iconst (pc := 13) hX dX8_lightens_13 ic_0 ?_
      refine w_iast (pc := 14) hX dX8_lightens_14 1 rfl hm (fun hm => ?_)
      refine w_iinc (pc := 15) hX dX8_lightens_15 rfl (Nat.le_of_ble_eq_true rfl) ic_1 ?_
      refine w_goto (pc := 18) (tgt := 2) hX dX8_lightens_18 (by decide) ?_
      exact w_lvs [true, true, true, true] (hself4 (x3.1 + (1 : Int32), (upd x3.2 x3.1.toNatClampNeg (0 : Int32))) hm)

set_option maxHeartbeats 4000000 in
set_option maxRecDepth 100000 in
theorem ctX8_in (G : gT) (g0 : Int32) (g1 : Int32) (g2 : Int32) (o : Int32) (hm : mX8_in g0 g1 g2 = some o) : CT G yX8_in wsX8_in rmX8_in [.int g0, .int g1, .int g2] ([]) (fun v w => v = some (.int o) ∧ w = []) := by
  refine CT_of (cc := cX8_in) (maxL := 3) (ret := (some .boolean)) 0 (by decide +kernel) rfl rfl (cat_ok rfl) (fun X hX hR hN => ?_)
  have hX : Ok G X cX8_in RX8 wsX8_in 3 rmX8_in := hX
  unfold mX8_in at hm
  refine w_iload_n (pc := 0) hX dX8_in_0 rfl rfl ?_
  refine w_iload_n (pc := 1) hX dX8_in_1 rfl rfl ?_
  refine w_jn (T := fun x1 : Int32 => WW G X 0 0 ([]) [none, none, none] 15 [.int x1]) hm (fun x1 hm => ?_) (fun j2 hj2 hm => ?_)
  ·
    refine w_zret (pc := 15) hX hR dX8_in_15 hm (fun hm => ?_)
    obtain rfl := som hm
    exact ⟨rfl, rfl⟩
  ·
    refine w_jn (T := fun x3 : Unit => WW G X 0 0 ([]) [none, none, none] 14 []) hm (fun x3 hm => ?_) (fun j4 hj4 hm => ?_)
    ·
      refine w_iconst (pc := 14) hX dX8_in_14 ic_0 ?_
      exact w_lvs [false, false, false] (hj2 (0 : Int32) hm)
    ·
      refine w_icmp_lt (pc := 2) (tgt := 14) hX dX8_in_2 (by decide) hm (fun hm => ?_) (fun hm => ?_)
      ·
        exact w_lvs [false, false, false] (hj4 () hm)
      ·
        refine w_iload_n (pc := 5) hX dX8_in_5 rfl rfl ?_
        refine w_iload_n (pc := 6) hX dX8_in_6 rfl rfl ?_
        refine w_icmp_gt (pc := 7) (tgt := 14) hX dX8_in_7 (by decide) hm (fun hm => ?_) (fun hm => ?_)
        ·
          exact w_lvs [false, false, false] (hj4 () hm)
        ·
          refine w_iconst (pc := 10) hX dX8_in_10 ic_1 ?_
          refine w_goto (pc := 11) (tgt := 15) hX dX8_in_11 (by decide) ?_
          exact w_lvs [false, false, false] (hj2 (1 : Int32) hm)

theorem lX8_begins_X8 : ∀ w ∈ wsX80, w ∈ wsX8_begins := in_at [3, 4, 5, 6, 7, 8, 9, 10, 11, 12, 13, 14, 15, 16, 17, 18, 19, 20, 21, 22, 23, 24, 25, 26] (by decide +kernel)
set_option maxHeartbeats 4000000 in
set_option maxRecDepth 100000 in
theorem ctX8_begins (G : gT) (F : Nat) (a_t : Nat → Nat) (m_s : nF) (m_begun : nF) (m_kept : nF) (m_isKept : Int32) (m_past : nF) (m_states : Int32) (m_text : nF) (m_length : Int32) (m_far : nF) (m_queue : nF) (m_isOn : nF) (m_steps : nF) (m_wayCells : Int32) (m_turns : Int32) (m_visits : nF) (m_wasSo : nF) (m_bestAway : Int32) (m_bestMade : Int32) (m_bestFault : Int32) (m_isHere : nF) (m_place : Int32) (m_reason : Int32) (m_wide : Int32) (m_high : Int32) (o : nF) (hm : mX8_begins F m_s m_begun = some o) : CT G yX8_begins wsX8_begins rmX8_begins [.ref (a_t 0)] (wX8 G a_t m_s m_begun m_kept m_isKept m_past m_states m_text m_length m_far m_queue m_isOn m_steps m_wayCells m_turns m_visits m_wasSo m_bestAway m_bestMade m_bestFault m_isHere m_place m_reason m_wide m_high) (fun v w => v = none ∧ w = wX8 G a_t m_s o m_kept m_isKept m_past m_states m_text m_length m_far m_queue m_isOn m_steps m_wayCells m_turns m_visits m_wasSo m_bestAway m_bestMade m_bestFault m_isHere m_place m_reason m_wide m_high) := by
  refine CT_of (cc := cX8_begins) (maxL := 2) (ret := none) 1 (by decide +kernel) rfl rfl (cat_ok rfl) (fun X hX hR hN => ?_)
  have hX : Ok G X cX8_begins RX8 wsX8_begins 2 rmX8_begins := hX
  have hX8 : ∀ w ∈ wsX80, w ∈ wsX8_begins := lX8_begins_X8
  unfold mX8_begins at hm
  refine w_iconst (pc := 0) hX dX8_begins_0 ic_0 ?_
  refine w_istore_n (pc := 1) hX dX8_begins_1 rfl (Nat.le_of_ble_eq_true rfl) ?_
  refine w_lvs [true, true] ?_
  refine lpr_ind (T := fun x1 : (Int32 × nF) => WW G X 0 0 (wX8 G a_t m_s x1.2 m_kept m_isKept m_past m_states m_text m_length m_far m_queue m_isOn m_steps m_wayCells m_turns m_visits m_wasSo m_bestAway m_bestMade m_bestFault m_isHere m_place m_reason m_wide m_high) [some (.ref (a_t 0)), some (.int x1.1)] 2 []) (fun self2 hself2 x1 hm => ?_) F ((0 : Int32), m_begun) hm
  unfold mX8_begins_L2 at hm
  refine w_iload_n (pc := 2) hX dX8_begins_2 rfl rfl ?_
  refine w_bipush (pc := 3) hX dX8_begins_3 bp_114 ?_
  refine w_icmp_ge (pc := 5) (tgt := 26) hX dX8_begins_5 (by decide) hm (fun hm => ?_) (fun hm => ?_)
  ·
    obtain rfl := som hm
    exact w_vret (pc := 26) hX hR dX8_begins_26 ⟨rfl, rfl⟩
  ·
    refine w_aload_n (pc := 8) hX dX8_begins_8 rfl rfl ?_
    refine gf_X8_begun (pc := 9) hX dX8_begins_9 hX8 (List.mem_of_getElem? (i := 1) rfl) 0 rfl rfl ?_
    refine w_iload_n (pc := 12) hX dX8_begins_12 rfl rfl ?_
    refine w_aload_n (pc := 13) hX dX8_begins_13 rfl rfl ?_
    refine gf_X8_s (pc := 14) hX dX8_begins_14 hX8 (List.mem_of_getElem? (i := 2) rfl) 0 rfl rfl ?_
    refine w_iload_n (pc := 17) hX dX8_begins_17 rfl rfl ?_
    refine w_iald (pc := 18) hX dX8_begins_18 1 rfl hm (fun hm => ?_)
    refine w_iast (pc := 19) hX dX8_begins_19 2 rfl hm (fun hm => ?_)
    refine w_iinc (pc := 20) hX dX8_begins_20 rfl (Nat.le_of_ble_eq_true rfl) ic_1 ?_
    refine w_goto (pc := 23) (tgt := 2) hX dX8_begins_23 (by decide) ?_
    exact w_lvs [true, true] (hself2 (x1.1 + (1 : Int32), (upd x1.2 x1.1.toNatClampNeg (m_s x1.1.toNatClampNeg))) hm)

theorem lX8_acted_X8 : ∀ w ∈ wsX80, w ∈ wsX8_acted := in_at [5, 6, 7, 8, 9, 10, 11, 12, 13, 14, 15, 16, 17, 18, 19, 20, 21, 22, 23, 24, 25, 26, 27, 28] (by decide +kernel)
set_option maxHeartbeats 4000000 in
set_option maxRecDepth 100000 in
theorem ctX8_acted (G : gT) (F : Nat) (a_t : Nat → Nat) (m_s : nF) (m_begun : nF) (m_kept : nF) (m_isKept : Int32) (m_past : nF) (m_states : Int32) (m_text : nF) (m_length : Int32) (m_far : nF) (m_queue : nF) (m_isOn : nF) (m_steps : nF) (m_wayCells : Int32) (m_turns : Int32) (m_visits : nF) (m_wasSo : nF) (m_bestAway : Int32) (m_bestMade : Int32) (m_bestFault : Int32) (m_isHere : nF) (m_place : Int32) (m_reason : Int32) (m_wide : Int32) (m_high : Int32) (g1 : Int32) (o : (Int32 × nF × nF × Int32)) (hm : mX8_acted F m_s m_begun m_past m_states g1 = some o) : CT G yX8_acted wsX8_acted rmX8_acted [.ref (a_t 0), .int g1] (wX8 G a_t m_s m_begun m_kept m_isKept m_past m_states m_text m_length m_far m_queue m_isOn m_steps m_wayCells m_turns m_visits m_wasSo m_bestAway m_bestMade m_bestFault m_isHere m_place m_reason m_wide m_high) (fun v w => v = some (.int o.1) ∧ w = wX8 G a_t o.2.1 m_begun m_kept m_isKept o.2.2.1 o.2.2.2 m_text m_length m_far m_queue m_isOn m_steps m_wayCells m_turns m_visits m_wasSo m_bestAway m_bestMade m_bestFault m_isHere m_place m_reason m_wide m_high) := by
  refine CT_of (cc := cX8_acted) (maxL := 3) (ret := (some .int)) 1 (by decide +kernel) rfl rfl (cat_ok rfl) (fun X hX hR hN => ?_)
  have hX : Ok G X cX8_acted RX8 wsX8_acted 3 rmX8_acted := hX
  have hX8 : ∀ w ∈ wsX80, w ∈ wsX8_acted := lX8_acted_X8
  unfold mX8_acted at hm
  refine w_iload_n (pc := 0) hX dX8_acted_0 rfl rfl ?_
  refine w_if_ge (pc := 1) (tgt := 32) hX dX8_acted_1 (by decide) hm (fun hm => ?_) (fun hm => ?_)
  ·
    refine w_aload_n (pc := 32) hX dX8_acted_32 rfl rfl ?_
    refine gf_X8_states (pc := 33) hX dX8_acted_33 hX8 (List.mem_of_getElem? (i := 3) rfl) 0 rfl rfl ?_
    refine w_iconst (pc := 36) hX dX8_acted_36 ic_4 ?_
    refine w_jn (T := fun x1 : (nF × Int32) => WW G X 0 0 (wX8 G a_t m_s m_begun m_kept m_isKept x1.1 x1.2 m_text m_length m_far m_queue m_isOn m_steps m_wayCells m_turns m_visits m_wasSo m_bestAway m_bestMade m_bestFault m_isHere m_place m_reason m_wide m_high) [some (.ref (a_t 0)), some (.int g1), none] 80 []) hm (fun x1 hm => ?_) (fun j2 hj2 hm => ?_)
    ·
      refine w_iconst (pc := 80) hX dX8_acted_80 ic_0 ?_
      refine w_istore_n (pc := 81) hX dX8_acted_81 rfl (Nat.le_of_ble_eq_true rfl) ?_
      refine w_lvs [true, true, true] ?_
      refine lpr_ind (T := fun x3 : (Int32 × nF) => WW G X 0 0 (wX8 G a_t m_s m_begun m_kept m_isKept x3.2 x1.2 m_text m_length m_far m_queue m_isOn m_steps m_wayCells m_turns m_visits m_wasSo m_bestAway m_bestMade m_bestFault m_isHere m_place m_reason m_wide m_high) [some (.ref (a_t 0)), some (.int g1), some (.int x3.1)] 82 []) (fun self4 hself4 x3 hm => ?_) F ((0 : Int32), x1.1) hm
      unfold mX8_acted_L82 at hm
      refine w_iload_n (pc := 82) hX dX8_acted_82 rfl rfl ?_
      refine w_bipush (pc := 83) hX dX8_acted_83 bp_114 ?_
      refine w_icmp_ge (pc := 85) (tgt := 114) hX dX8_acted_85 (by decide) hm (fun hm => ?_) (fun hm => ?_)
      ·
        refine w_aload_n (pc := 114) hX dX8_acted_114 rfl rfl ?_
        refine w_dup (pc := 115) hX dX8_acted_115 rfl ?_
        refine gf_X8_states (pc := 116) hX dX8_acted_116 hX8 (List.mem_of_getElem? (i := 3) rfl) 0 rfl rfl ?_
        refine w_iconst (pc := 119) hX dX8_acted_119 ic_1 ?_
        refine w_iadd (pc := 120) hX dX8_acted_120 ?_
        refine pf_X8_states (pc := 121) hX dX8_acted_121 hX8 (List.mem_of_getElem? (i := 3) rfl) 0 rfl rfl ?_
        refine w_iload_n (pc := 124) hX dX8_acted_124 rfl rfl ?_
        obtain rfl := som hm
        exact w_iret (pc := 125) hX hR dX8_acted_125 ⟨rfl, rfl⟩
      ·
        refine w_aload_n (pc := 88) hX dX8_acted_88 rfl rfl ?_
        refine gf_X8_past (pc := 89) hX dX8_acted_89 hX8 (List.mem_of_getElem? (i := 4) rfl) 0 rfl rfl ?_
        refine w_bipush (pc := 92) hX dX8_acted_92 bp_114 ?_
        refine w_aload_n (pc := 94) hX dX8_acted_94 rfl rfl ?_
        refine gf_X8_states (pc := 95) hX dX8_acted_95 hX8 (List.mem_of_getElem? (i := 3) rfl) 0 rfl rfl ?_
        refine w_imul (pc := 98) hX dX8_acted_98 ?_
        refine w_iload_n (pc := 99) hX dX8_acted_99 rfl rfl ?_
        refine w_iadd (pc := 100) hX dX8_acted_100 ?_
        refine w_aload_n (pc := 101) hX dX8_acted_101 rfl rfl ?_
        refine gf_X8_begun (pc := 102) hX dX8_acted_102 hX8 (List.mem_of_getElem? (i := 2) rfl) 0 rfl rfl ?_
        refine w_iload_n (pc := 105) hX dX8_acted_105 rfl rfl ?_
        refine w_iald (pc := 106) hX dX8_acted_106 2 rfl hm (fun hm => ?_)
        refine w_iast (pc := 107) hX dX8_acted_107 4 rfl hm (fun hm => ?_)
        refine w_iinc (pc := 108) hX dX8_acted_108 rfl (Nat.le_of_ble_eq_true rfl) ic_1 ?_
        refine w_goto (pc := 111) (tgt := 82) hX dX8_acted_111 (by decide) ?_
        exact w_lvs [true, true, true] (hself4 (x3.1 + (1 : Int32), (upd x3.2 (((114 : Int32) * x1.2) + x3.1).toNatClampNeg (m_begun x3.1.toNatClampNeg))) hm)
    ·
      refine w_icmp_ne (pc := 37) (tgt := 80) hX dX8_acted_37 (by decide) hm (fun hm => ?_) (fun hm => ?_)
      ·
        exact w_lvs [true, true, false] (hj2 (m_past, m_states) hm)
      ·
        refine w_iconst (pc := 40) hX dX8_acted_40 ic_0 ?_
        refine w_istore_n (pc := 41) hX dX8_acted_41 rfl (Nat.le_of_ble_eq_true rfl) ?_
        refine w_jn (T := fun x5 : nF => WW G X 0 0 (wX8 G a_t m_s m_begun m_kept m_isKept x5 m_states m_text m_length m_far m_queue m_isOn m_steps m_wayCells m_turns m_visits m_wasSo m_bestAway m_bestMade m_bestFault m_isHere m_place m_reason m_wide m_high) [some (.ref (a_t 0)), some (.int g1), none] 70 []) hm (fun x5 hm => ?_) (fun j6 hj6 hm => ?_)
        ·
          unfold mX8_acted_K70 at hm
          refine w_aload_n (pc := 70) hX dX8_acted_70 rfl rfl ?_
          refine w_dup (pc := 71) hX dX8_acted_71 rfl ?_
          refine gf_X8_states (pc := 72) hX dX8_acted_72 hX8 (List.mem_of_getElem? (i := 3) rfl) 0 rfl rfl ?_
          refine w_iconst (pc := 75) hX dX8_acted_75 ic_1 ?_
          refine w_isub (pc := 76) hX dX8_acted_76 ?_
          refine pf_X8_states (pc := 77) hX dX8_acted_77 hX8 (List.mem_of_getElem? (i := 3) rfl) 0 rfl rfl ?_
          exact w_lvs [true, true, false] (hj2 (x5, m_states - (1 : Int32)) hm)
        ·
          refine w_lvs [true, true, true] ?_
          refine lpr_ind (T := fun x7 : (Int32 × nF) => WW G X 0 0 (wX8 G a_t m_s m_begun m_kept m_isKept x7.2 m_states m_text m_length m_far m_queue m_isOn m_steps m_wayCells m_turns m_visits m_wasSo m_bestAway m_bestMade m_bestFault m_isHere m_place m_reason m_wide m_high) [some (.ref (a_t 0)), some (.int g1), some (.int x7.1)] 42 []) (fun self8 hself8 x7 hm => ?_) F ((0 : Int32), m_past) hm
          unfold mX8_acted_L42 at hm
          refine w_iload_n (pc := 42) hX dX8_acted_42 rfl rfl ?_
          refine w_sipush (pc := 43) hX dX8_acted_43 sp_342 ?_
          refine w_icmp_ge (pc := 46) (tgt := 70) hX dX8_acted_46 (by decide) hm (fun hm => ?_) (fun hm => ?_)
          ·
            exact w_lvs [true, true, false] (hj6 x7.2 hm)
          ·
            refine w_aload_n (pc := 49) hX dX8_acted_49 rfl rfl ?_
            refine gf_X8_past (pc := 50) hX dX8_acted_50 hX8 (List.mem_of_getElem? (i := 4) rfl) 0 rfl rfl ?_
            refine w_iload_n (pc := 53) hX dX8_acted_53 rfl rfl ?_
            refine w_aload_n (pc := 54) hX dX8_acted_54 rfl rfl ?_
            refine gf_X8_past (pc := 55) hX dX8_acted_55 hX8 (List.mem_of_getElem? (i := 4) rfl) 0 rfl rfl ?_
            refine w_iload_n (pc := 58) hX dX8_acted_58 rfl rfl ?_
            refine w_bipush (pc := 59) hX dX8_acted_59 bp_114 ?_
            refine w_iadd (pc := 61) hX dX8_acted_61 ?_
            refine w_iald (pc := 62) hX dX8_acted_62 4 rfl hm (fun hm => ?_)
            refine w_iast (pc := 63) hX dX8_acted_63 4 rfl hm (fun hm => ?_)
            refine w_iinc (pc := 64) hX dX8_acted_64 rfl (Nat.le_of_ble_eq_true rfl) ic_1 ?_
            refine w_goto (pc := 67) (tgt := 42) hX dX8_acted_67 (by decide) ?_
            exact w_lvs [true, true, true] (hself8 (x7.1 + (1 : Int32), (upd x7.2 x7.1.toNatClampNeg (x7.2 (x7.1 + (114 : Int32)).toNatClampNeg))) hm)
  ·
    refine w_iconst (pc := 4) hX dX8_acted_4 ic_0 ?_
    refine w_istore_n (pc := 5) hX dX8_acted_5 rfl (Nat.le_of_ble_eq_true rfl) ?_
    refine w_lvs [true, true, true] ?_
    refine lpr_ind (T := fun x9 : (Int32 × nF) => WW G X 0 0 (wX8 G a_t x9.2 m_begun m_kept m_isKept m_past m_states m_text m_length m_far m_queue m_isOn m_steps m_wayCells m_turns m_visits m_wasSo m_bestAway m_bestMade m_bestFault m_isHere m_place m_reason m_wide m_high) [some (.ref (a_t 0)), some (.int g1), some (.int x9.1)] 6 []) (fun self10 hself10 x9 hm => ?_) F ((0 : Int32), m_s) hm
    unfold mX8_acted_L6 at hm
    refine w_iload_n (pc := 6) hX dX8_acted_6 rfl rfl ?_
    refine w_bipush (pc := 7) hX dX8_acted_7 bp_114 ?_
    refine w_icmp_ge (pc := 9) (tgt := 30) hX dX8_acted_9 (by decide) hm (fun hm => ?_) (fun hm => ?_)
    ·
      refine w_iload_n (pc := 30) hX dX8_acted_30 rfl rfl ?_
      obtain rfl := som hm
      exact w_iret (pc := 31) hX hR dX8_acted_31 ⟨rfl, rfl⟩
    ·
      refine w_aload_n (pc := 12) hX dX8_acted_12 rfl rfl ?_
      refine gf_X8_s (pc := 13) hX dX8_acted_13 hX8 (List.mem_of_getElem? (i := 1) rfl) 0 rfl rfl ?_
      refine w_iload_n (pc := 16) hX dX8_acted_16 rfl rfl ?_
      refine w_aload_n (pc := 17) hX dX8_acted_17 rfl rfl ?_
      refine gf_X8_begun (pc := 18) hX dX8_acted_18 hX8 (List.mem_of_getElem? (i := 2) rfl) 0 rfl rfl ?_
      refine w_iload_n (pc := 21) hX dX8_acted_21 rfl rfl ?_
      refine w_iald (pc := 22) hX dX8_acted_22 2 rfl hm (fun hm => ?_)
      refine w_iast (pc := 23) hX dX8_acted_23 1 rfl hm (fun hm => ?_)
      refine w_iinc (pc := 24) hX dX8_acted_24 rfl (Nat.le_of_ble_eq_true rfl) ic_1 ?_
      refine w_goto (pc := 27) (tgt := 6) hX dX8_acted_27 (by decide) ?_
      exact w_lvs [true, true, true] (hself10 (x9.1 + (1 : Int32), (upd x9.2 x9.1.toNatClampNeg (m_begun x9.1.toNatClampNeg))) hm)

theorem lX8_cells_X8 : ∀ w ∈ wsX80, w ∈ wsX8_cells := in_at [2, 3, 4, 5, 6, 7, 8, 9, 10, 11, 12, 13, 14, 15, 16, 17, 18, 19, 20, 21, 22, 23, 24, 25] (by decide +kernel)
set_option maxHeartbeats 4000000 in
set_option maxRecDepth 100000 in
theorem ctX8_cells (G : gT) (a_t : Nat → Nat) (m_s : nF) (m_begun : nF) (m_kept : nF) (m_isKept : Int32) (m_past : nF) (m_states : Int32) (m_text : nF) (m_length : Int32) (m_far : nF) (m_queue : nF) (m_isOn : nF) (m_steps : nF) (m_wayCells : Int32) (m_turns : Int32) (m_visits : nF) (m_wasSo : nF) (m_bestAway : Int32) (m_bestMade : Int32) (m_bestFault : Int32) (m_isHere : nF) (m_place : Int32) (m_reason : Int32) (m_wide : Int32) (m_high : Int32) (o : Int32) (hm : mX8_cells m_s = some o) : CT G yX8_cells wsX8_cells rmX8_cells [.ref (a_t 0)] (wX8 G a_t m_s m_begun m_kept m_isKept m_past m_states m_text m_length m_far m_queue m_isOn m_steps m_wayCells m_turns m_visits m_wasSo m_bestAway m_bestMade m_bestFault m_isHere m_place m_reason m_wide m_high) (fun v w => v = some (.int o) ∧ w = wX8 G a_t m_s m_begun m_kept m_isKept m_past m_states m_text m_length m_far m_queue m_isOn m_steps m_wayCells m_turns m_visits m_wasSo m_bestAway m_bestMade m_bestFault m_isHere m_place m_reason m_wide m_high) := by
  refine CT_of (cc := cX8_cells) (maxL := 1) (ret := (some .int)) 0 (by decide +kernel) rfl rfl (cat_ok rfl) (fun X hX hR hN => ?_)
  have hX : Ok G X cX8_cells RX8 wsX8_cells 1 rmX8_cells := hX
  have hX8 : ∀ w ∈ wsX80, w ∈ wsX8_cells := lX8_cells_X8
  unfold mX8_cells at hm
  refine w_aload_n (pc := 0) hX dX8_cells_0 rfl rfl ?_
  refine gf_X8_s (pc := 1) hX dX8_cells_1 hX8 (List.mem_of_getElem? (i := 1) rfl) 0 rfl rfl ?_
  refine w_iconst (pc := 4) hX dX8_cells_4 ic_0 ?_
  refine w_iald (pc := 5) hX dX8_cells_5 1 rfl hm (fun hm => ?_)
  refine w_aload_n (pc := 6) hX dX8_cells_6 rfl rfl ?_
  refine gf_X8_s (pc := 7) hX dX8_cells_7 hX8 (List.mem_of_getElem? (i := 1) rfl) 0 rfl rfl ?_
  refine w_iconst (pc := 10) hX dX8_cells_10 ic_1 ?_
  refine w_iald (pc := 11) hX dX8_cells_11 1 rfl hm (fun hm => ?_)
  refine w_imul (pc := 12) hX dX8_cells_12 ?_
  obtain rfl := som hm
  exact w_iret (pc := 13) hX hR dX8_cells_13 ⟨rfl, rfl⟩

set_option maxHeartbeats 4000000 in
set_option maxRecDepth 100000 in
theorem ctX8_isCell (G : gT) (a_t : Nat → Nat) (m_s : nF) (m_begun : nF) (m_kept : nF) (m_isKept : Int32) (m_past : nF) (m_states : Int32) (m_text : nF) (m_length : Int32) (m_far : nF) (m_queue : nF) (m_isOn : nF) (m_steps : nF) (m_wayCells : Int32) (m_turns : Int32) (m_visits : nF) (m_wasSo : nF) (m_bestAway : Int32) (m_bestMade : Int32) (m_bestFault : Int32) (m_isHere : nF) (m_place : Int32) (m_reason : Int32) (m_wide : Int32) (m_high : Int32) (g1 : Int32) (o : Int32) (hm : mX8_isCell m_s g1 = some o) : CT G yX8_isCell wsX8_isCell rmX8_isCell [.ref (a_t 0), .int g1] (wX8 G a_t m_s m_begun m_kept m_isKept m_past m_states m_text m_length m_far m_queue m_isOn m_steps m_wayCells m_turns m_visits m_wasSo m_bestAway m_bestMade m_bestFault m_isHere m_place m_reason m_wide m_high) (fun v w => v = some (.int o) ∧ w = wX8 G a_t m_s m_begun m_kept m_isKept m_past m_states m_text m_length m_far m_queue m_isOn m_steps m_wayCells m_turns m_visits m_wasSo m_bestAway m_bestMade m_bestFault m_isHere m_place m_reason m_wide m_high) := by
  refine CT_of (cc := cX8_isCell) (maxL := 2) (ret := (some .boolean)) 0 (by decide +kernel) rfl rfl (cat_ok rfl) (fun X hX hR hN => ?_)
  have hX : Ok G X cX8_isCell RX8 wsX8_isCell 2 rmX8_isCell := hX
  unfold mX8_isCell at hm
  refine w_iload_n (pc := 0) hX dX8_isCell_0 rfl rfl ?_
  refine w_iconst (pc := 1) hX dX8_isCell_1 ic_0 ?_
  refine w_aload_n (pc := 2) hX dX8_isCell_2 rfl rfl ?_
  obtain ⟨r1, hr1, hm⟩ := bnd hm
  refine w_callpi (pc := 3) hX [0, 1, 2, 3, 4, 5, 6, 7, 8, 9, 10, 11, 12] (runV (rest := [.int (0 : Int32), .int g1]) hX [0, 1, 2, 3, 4, 5, 6, 7, 8, 9, 10, 11, 12] (ctX8_cells G a_t m_s m_begun m_kept m_isKept m_past m_states m_text m_length m_far m_queue m_isOn m_steps m_wayCells m_turns m_visits m_wasSo m_bestAway m_bestMade m_bestFault m_isHere m_place m_reason m_wide m_high r1 hr1) dX8_isCell_3 0 gX8_isCell_X8_cells rfl hyX8_cells ⟨Nat.le_of_ble_eq_true rfl, Nat.le_of_ble_eq_true rfl⟩ 0 rfl rfl rfl rfl (Nat.le_of_ble_eq_true rfl) ⟨Nat.le_of_ble_eq_true rfl, Nat.le_of_ble_eq_true rfl⟩ rfl (by decide +kernel)) rfl ⟨rfl, rfl⟩ ?_
  refine w_iconst (pc := 6) hX dX8_isCell_6 ic_1 ?_
  refine w_isub (pc := 7) hX dX8_isCell_7 ?_
  obtain ⟨r2, hr2, hm⟩ := bnd hm
  refine w_callpi (pc := 8) hX [] (runS (rest := []) hX [] (ctX8_in G g1 (0 : Int32) (r1 - (1 : Int32)) r2 hr2) dX8_isCell_8 3 gX8_isCell_X8_in rfl hyX8_in.2 ⟨Nat.le_of_ble_eq_true rfl, Nat.le_of_ble_eq_true rfl⟩ rfl rfl (Nat.le_of_ble_eq_true rfl) ⟨Nat.le_of_ble_eq_true rfl, Nat.le_of_ble_eq_true rfl⟩ rfl (by decide +kernel)) rfl ⟨rfl, rfl⟩ ?_
  refine w_zret (pc := 11) hX hR dX8_isCell_11 hm (fun hm => ?_)
  obtain rfl := som hm
  exact ⟨rfl, rfl⟩

theorem lX8_besides_X8 : ∀ w ∈ wsX80, w ∈ wsX8_besides := in_at [2, 3, 4, 5, 6, 7, 8, 9, 10, 11, 12, 13, 14, 15, 16, 17, 18, 19, 20, 21, 22, 23, 24, 25] (by decide +kernel)
set_option maxHeartbeats 4000000 in
set_option maxRecDepth 100000 in
theorem ctX8_besides (G : gT) (a_t : Nat → Nat) (m_s : nF) (m_begun : nF) (m_kept : nF) (m_isKept : Int32) (m_past : nF) (m_states : Int32) (m_text : nF) (m_length : Int32) (m_far : nF) (m_queue : nF) (m_isOn : nF) (m_steps : nF) (m_wayCells : Int32) (m_turns : Int32) (m_visits : nF) (m_wasSo : nF) (m_bestAway : Int32) (m_bestMade : Int32) (m_bestFault : Int32) (m_isHere : nF) (m_place : Int32) (m_reason : Int32) (m_wide : Int32) (m_high : Int32) (g1 : Int32) (g2 : Int32) (o : Int32) (hm : mX8_besides m_s g1 g2 = some o) : CT G yX8_besides wsX8_besides rmX8_besides [.ref (a_t 0), .int g1, .int g2] (wX8 G a_t m_s m_begun m_kept m_isKept m_past m_states m_text m_length m_far m_queue m_isOn m_steps m_wayCells m_turns m_visits m_wasSo m_bestAway m_bestMade m_bestFault m_isHere m_place m_reason m_wide m_high) (fun v w => v = some (.int o) ∧ w = wX8 G a_t m_s m_begun m_kept m_isKept m_past m_states m_text m_length m_far m_queue m_isOn m_steps m_wayCells m_turns m_visits m_wasSo m_bestAway m_bestMade m_bestFault m_isHere m_place m_reason m_wide m_high) := by
  refine CT_of (cc := cX8_besides) (maxL := 5) (ret := (some .int)) 2 (by decide +kernel) rfl rfl (cat_ok rfl) (fun X hX hR hN => ?_)
  have hX : Ok G X cX8_besides RX8 wsX8_besides 5 rmX8_besides := hX
  have hX8 : ∀ w ∈ wsX80, w ∈ wsX8_besides := lX8_besides_X8
  unfold mX8_besides at hm
  refine w_iload_n (pc := 0) hX dX8_besides_0 rfl rfl ?_
  refine w_aload_n (pc := 1) hX dX8_besides_1 rfl rfl ?_
  refine gf_X8_s (pc := 2) hX dX8_besides_2 hX8 (List.mem_of_getElem? (i := 1) rfl) 0 rfl rfl ?_
  refine w_iconst (pc := 5) hX dX8_besides_5 ic_0 ?_
  refine w_iald (pc := 6) hX dX8_besides_6 1 rfl hm (fun hm => ?_)
  refine w_irem (pc := 7) hX dX8_besides_7 hm (fun hm => ?_)
  refine w_istore_n (pc := 8) hX dX8_besides_8 rfl (Nat.le_of_ble_eq_true rfl) ?_
  refine w_iload_n (pc := 9) hX dX8_besides_9 rfl rfl ?_
  refine w_aload_n (pc := 10) hX dX8_besides_10 rfl rfl ?_
  refine gf_X8_s (pc := 11) hX dX8_besides_11 hX8 (List.mem_of_getElem? (i := 1) rfl) 0 rfl rfl ?_
  refine w_iconst (pc := 14) hX dX8_besides_14 ic_0 ?_
  refine w_iald (pc := 15) hX dX8_besides_15 1 rfl hm (fun hm => ?_)
  refine w_idiv (pc := 16) hX dX8_besides_16 hm (fun hm => ?_)
  refine w_istore (pc := 17) hX dX8_besides_17 (Nat.le_of_ble_eq_true rfl) ?_
  refine w_iload_n (pc := 19) hX dX8_besides_19 rfl rfl ?_
  rcases Decidable.em (g2 = (0 : Int32)) with hc1 | hc1
  ·
    replace hm := ite_t hm hc1
    refine w_tabIn (pc := 20) (tgt := 48) hX dX8_besides_20 0 (by rw [hc1]; decide) (by decide) (by decide) rfl (by decide) ?_
    refine w_iload (pc := 48) hX dX8_besides_48 rfl ?_
    refine w_jn (T := fun x2 : Int32 => WW G X 0 0 (wX8 G a_t m_s m_begun m_kept m_isKept m_past m_states m_text m_length m_far m_queue m_isOn m_steps m_wayCells m_turns m_visits m_wasSo m_bestAway m_bestMade m_bestFault m_isHere m_place m_reason m_wide m_high) [none, none, none, none, none] 65 [.int x2]) hm (fun x2 hm => ?_) (fun j3 hj3 hm => ?_)
    ·
      obtain rfl := som hm
      exact w_iret (pc := 65) hX hR dX8_besides_65 ⟨rfl, rfl⟩
    ·
      refine w_if_le (pc := 50) (tgt := 64) hX dX8_besides_50 (by decide) hm (fun hm => ?_) (fun hm => ?_)
      ·
        refine w_iconst (pc := 64) hX dX8_besides_64 ic_m1 ?_
        exact w_lvs [false, false, false, false, false] (hj3 (-1 : Int32) hm)
      ·
        refine w_iload_n (pc := 53) hX dX8_besides_53 rfl rfl ?_
        refine w_aload_n (pc := 54) hX dX8_besides_54 rfl rfl ?_
        refine gf_X8_s (pc := 55) hX dX8_besides_55 hX8 (List.mem_of_getElem? (i := 1) rfl) 0 rfl rfl ?_
        refine w_iconst (pc := 58) hX dX8_besides_58 ic_0 ?_
        refine w_iald (pc := 59) hX dX8_besides_59 1 rfl hm (fun hm => ?_)
        refine w_isub (pc := 60) hX dX8_besides_60 ?_
        refine w_goto (pc := 61) (tgt := 65) hX dX8_besides_61 (by decide) ?_
        exact w_lvs [false, false, false, false, false] (hj3 (g1 - (m_s (0 : Int32).toNatClampNeg)) hm)
  ·
    replace hm := ite_f hm hc1
    rcases Decidable.em (g2 = (1 : Int32)) with hc4 | hc4
    ·
      replace hm := ite_t hm hc4
      refine w_tabIn (pc := 20) (tgt := 66) hX dX8_besides_20 1 (by rw [hc4]; decide) (by decide) (by decide) rfl (by decide) ?_
      refine w_iload_n (pc := 66) hX dX8_besides_66 rfl rfl ?_
      refine w_iconst (pc := 67) hX dX8_besides_67 ic_1 ?_
      refine w_iadd (pc := 68) hX dX8_besides_68 ?_
      refine w_aload_n (pc := 69) hX dX8_besides_69 rfl rfl ?_
      refine gf_X8_s (pc := 70) hX dX8_besides_70 hX8 (List.mem_of_getElem? (i := 1) rfl) 0 rfl rfl ?_
      refine w_iconst (pc := 73) hX dX8_besides_73 ic_0 ?_
      refine w_iald (pc := 74) hX dX8_besides_74 1 rfl hm (fun hm => ?_)
      refine w_jn (T := fun x5 : Int32 => WW G X 0 0 (wX8 G a_t m_s m_begun m_kept m_isKept m_past m_states m_text m_length m_far m_queue m_isOn m_steps m_wayCells m_turns m_visits m_wasSo m_bestAway m_bestMade m_bestFault m_isHere m_place m_reason m_wide m_high) [none, none, none, none, none] 85 [.int x5]) hm (fun x5 hm => ?_) (fun j6 hj6 hm => ?_)
      ·
        obtain rfl := som hm
        exact w_iret (pc := 85) hX hR dX8_besides_85 ⟨rfl, rfl⟩
      ·
        refine w_icmp_ge (pc := 75) (tgt := 84) hX dX8_besides_75 (by decide) hm (fun hm => ?_) (fun hm => ?_)
        ·
          refine w_iconst (pc := 84) hX dX8_besides_84 ic_m1 ?_
          exact w_lvs [false, false, false, false, false] (hj6 (-1 : Int32) hm)
        ·
          refine w_iload_n (pc := 78) hX dX8_besides_78 rfl rfl ?_
          refine w_iconst (pc := 79) hX dX8_besides_79 ic_1 ?_
          refine w_iadd (pc := 80) hX dX8_besides_80 ?_
          refine w_goto (pc := 81) (tgt := 85) hX dX8_besides_81 (by decide) ?_
          exact w_lvs [false, false, false, false, false] (hj6 (g1 + (1 : Int32)) hm)
    ·
      replace hm := ite_f hm hc4
      rcases Decidable.em (g2 = (2 : Int32)) with hc7 | hc7
      ·
        replace hm := ite_t hm hc7
        refine w_tabIn (pc := 20) (tgt := 86) hX dX8_besides_20 2 (by rw [hc7]; decide) (by decide) (by decide) rfl (by decide) ?_
        refine w_iload (pc := 86) hX dX8_besides_86 rfl ?_
        refine w_iconst (pc := 88) hX dX8_besides_88 ic_1 ?_
        refine w_iadd (pc := 89) hX dX8_besides_89 ?_
        refine w_aload_n (pc := 90) hX dX8_besides_90 rfl rfl ?_
        refine gf_X8_s (pc := 91) hX dX8_besides_91 hX8 (List.mem_of_getElem? (i := 1) rfl) 0 rfl rfl ?_
        refine w_iconst (pc := 94) hX dX8_besides_94 ic_1 ?_
        refine w_iald (pc := 95) hX dX8_besides_95 1 rfl hm (fun hm => ?_)
        refine w_jn (T := fun x8 : Int32 => WW G X 0 0 (wX8 G a_t m_s m_begun m_kept m_isKept m_past m_states m_text m_length m_far m_queue m_isOn m_steps m_wayCells m_turns m_visits m_wasSo m_bestAway m_bestMade m_bestFault m_isHere m_place m_reason m_wide m_high) [none, none, none, none, none] 111 [.int x8]) hm (fun x8 hm => ?_) (fun j9 hj9 hm => ?_)
        ·
          obtain rfl := som hm
          exact w_iret (pc := 111) hX hR dX8_besides_111 ⟨rfl, rfl⟩
        ·
          refine w_icmp_ge (pc := 96) (tgt := 110) hX dX8_besides_96 (by decide) hm (fun hm => ?_) (fun hm => ?_)
          ·
            refine w_iconst (pc := 110) hX dX8_besides_110 ic_m1 ?_
            exact w_lvs [false, false, false, false, false] (hj9 (-1 : Int32) hm)
          ·
            refine w_iload_n (pc := 99) hX dX8_besides_99 rfl rfl ?_
            refine w_aload_n (pc := 100) hX dX8_besides_100 rfl rfl ?_
            refine gf_X8_s (pc := 101) hX dX8_besides_101 hX8 (List.mem_of_getElem? (i := 1) rfl) 0 rfl rfl ?_
            refine w_iconst (pc := 104) hX dX8_besides_104 ic_0 ?_
            refine w_iald (pc := 105) hX dX8_besides_105 1 rfl hm (fun hm => ?_)
            refine w_iadd (pc := 106) hX dX8_besides_106 ?_
            refine w_goto (pc := 107) (tgt := 111) hX dX8_besides_107 (by decide) ?_
            exact w_lvs [false, false, false, false, false] (hj9 (g1 + (m_s (0 : Int32).toNatClampNeg)) hm)
      ·
        replace hm := ite_f hm hc7
        refine w_tabOut (pc := 20) (tgt := 112) hX dX8_besides_20 (tsw_out (n := 2) (fun i hi => by rcases (show i = 0 ∨ i = 1 ∨ i = 2 by omega) with rfl | rfl | rfl <;> assumption)) (by decide) ?_
        refine w_iload_n (pc := 112) hX dX8_besides_112 rfl rfl ?_
        refine w_jn (T := fun x10 : Int32 => WW G X 0 0 (wX8 G a_t m_s m_begun m_kept m_isKept m_past m_states m_text m_length m_far m_queue m_isOn m_steps m_wayCells m_turns m_visits m_wasSo m_bestAway m_bestMade m_bestFault m_isHere m_place m_reason m_wide m_high) [none, none, none, none, none] 123 [.int x10]) hm (fun x10 hm => ?_) (fun j11 hj11 hm => ?_)
        ·
          obtain rfl := som hm
          exact w_iret (pc := 123) hX hR dX8_besides_123 ⟨rfl, rfl⟩
        ·
          refine w_if_le (pc := 113) (tgt := 122) hX dX8_besides_113 (by decide) hm (fun hm => ?_) (fun hm => ?_)
          ·
            refine w_iconst (pc := 122) hX dX8_besides_122 ic_m1 ?_
            exact w_lvs [false, false, false, false, false] (hj11 (-1 : Int32) hm)
          ·
            refine w_iload_n (pc := 116) hX dX8_besides_116 rfl rfl ?_
            refine w_iconst (pc := 117) hX dX8_besides_117 ic_1 ?_
            refine w_isub (pc := 118) hX dX8_besides_118 ?_
            refine w_goto (pc := 119) (tgt := 123) hX dX8_besides_119 (by decide) ?_
            exact w_lvs [false, false, false, false, false] (hj11 (g1 - (1 : Int32)) hm)

set_option maxHeartbeats 4000000 in
set_option maxRecDepth 100000 in
theorem ctX8_numberOf (G : gT) (a_t : Nat → Nat) (m_s : nF) (m_begun : nF) (m_kept : nF) (m_isKept : Int32) (m_past : nF) (m_states : Int32) (m_text : nF) (m_length : Int32) (m_far : nF) (m_queue : nF) (m_isOn : nF) (m_steps : nF) (m_wayCells : Int32) (m_turns : Int32) (m_visits : nF) (m_wasSo : nF) (m_bestAway : Int32) (m_bestMade : Int32) (m_bestFault : Int32) (m_isHere : nF) (m_place : Int32) (m_reason : Int32) (m_wide : Int32) (m_high : Int32) (g1 : Int32) (g2 : Int32) (o : Int32) (hm : mX8_numberOf m_s g1 g2 = some o) : CT G yX8_numberOf wsX8_numberOf rmX8_numberOf [.ref (a_t 0), .int g1, .int g2] (wX8 G a_t m_s m_begun m_kept m_isKept m_past m_states m_text m_length m_far m_queue m_isOn m_steps m_wayCells m_turns m_visits m_wasSo m_bestAway m_bestMade m_bestFault m_isHere m_place m_reason m_wide m_high) (fun v w => v = some (.int o) ∧ w = wX8 G a_t m_s m_begun m_kept m_isKept m_past m_states m_text m_length m_far m_queue m_isOn m_steps m_wayCells m_turns m_visits m_wasSo m_bestAway m_bestMade m_bestFault m_isHere m_place m_reason m_wide m_high) := by
  refine CT_of (cc := cX8_numberOf) (maxL := 4) (ret := (some .int)) 1 (by decide +kernel) rfl rfl (cat_ok rfl) (fun X hX hR hN => ?_)
  have hX : Ok G X cX8_numberOf RX8 wsX8_numberOf 4 rmX8_numberOf := hX
  unfold mX8_numberOf at hm
  refine w_aload_n (pc := 0) hX dX8_numberOf_0 rfl rfl ?_
  refine w_iload_n (pc := 1) hX dX8_numberOf_1 rfl rfl ?_
  refine w_iload_n (pc := 2) hX dX8_numberOf_2 rfl rfl ?_
  obtain ⟨r1, hr1, hm⟩ := bnd hm
  refine w_callpi (pc := 3) hX [0, 1, 2, 3, 4, 5, 6, 7, 8, 9, 10, 11, 12] (runV (rest := []) hX [0, 1, 2, 3, 4, 5, 6, 7, 8, 9, 10, 11, 12] (ctX8_besides G a_t m_s m_begun m_kept m_isKept m_past m_states m_text m_length m_far m_queue m_isOn m_steps m_wayCells m_turns m_visits m_wasSo m_bestAway m_bestMade m_bestFault m_isHere m_place m_reason m_wide m_high g1 g2 r1 hr1) dX8_numberOf_3 2 gX8_numberOf_X8_besides rfl hyX8_besides ⟨Nat.le_of_ble_eq_true rfl, Nat.le_of_ble_eq_true rfl⟩ 0 rfl rfl rfl rfl (Nat.le_of_ble_eq_true rfl) ⟨Nat.le_of_ble_eq_true rfl, Nat.le_of_ble_eq_true rfl⟩ rfl (by decide +kernel)) rfl ⟨rfl, rfl⟩ ?_
  refine w_istore_n (pc := 6) hX dX8_numberOf_6 rfl (Nat.le_of_ble_eq_true rfl) ?_
  refine w_iconst (pc := 7) hX dX8_numberOf_7 ic_2 ?_
  refine w_iload_n (pc := 8) hX dX8_numberOf_8 rfl rfl ?_
  refine w_iconst (pc := 9) hX dX8_numberOf_9 ic_1 ?_
  refine w_jn (T := fun x2 : Int32 => WW G X 0 0 (wX8 G a_t m_s m_begun m_kept m_isKept m_past m_states m_text m_length m_far m_queue m_isOn m_steps m_wayCells m_turns m_visits m_wasSo m_bestAway m_bestMade m_bestFault m_isHere m_place m_reason m_wide m_high) [none, none, some (.int g2), none] 23 [.int x2, .int (2 : Int32)]) hm (fun x2 hm => ?_) (fun j3 hj3 hm => ?_)
  ·
    refine w_imul (pc := 23) hX dX8_numberOf_23 ?_
    refine w_iload_n (pc := 24) hX dX8_numberOf_24 rfl rfl ?_
    refine w_iconst (pc := 25) hX dX8_numberOf_25 ic_2 ?_
    refine w_irem (pc := 26) hX dX8_numberOf_26 hm (fun hm => ?_)
    refine w_jn (T := fun x4 : Int32 => WW G X 0 0 (wX8 G a_t m_s m_begun m_kept m_isKept m_past m_states m_text m_length m_far m_queue m_isOn m_steps m_wayCells m_turns m_visits m_wasSo m_bestAway m_bestMade m_bestFault m_isHere m_place m_reason m_wide m_high) [none, none, none, none] 35 [.int x4, .int ((2 : Int32) * x2)]) hm (fun x4 hm => ?_) (fun j5 hj5 hm => ?_)
    ·
      refine w_iadd (pc := 35) hX dX8_numberOf_35 ?_
      obtain rfl := som hm
      exact w_iret (pc := 36) hX hR dX8_numberOf_36 ⟨rfl, rfl⟩
    ·
      refine w_if_ne (pc := 27) (tgt := 34) hX dX8_numberOf_27 (by decide) hm (fun hm => ?_) (fun hm => ?_)
      ·
        refine w_iconst (pc := 34) hX dX8_numberOf_34 ic_0 ?_
        exact w_lvs [false, false, false, false] (hj5 (0 : Int32) hm)
      ·
        refine w_iconst (pc := 30) hX dX8_numberOf_30 ic_1 ?_
        refine w_goto (pc := 31) (tgt := 35) hX dX8_numberOf_31 (by decide) ?_
        exact w_lvs [false, false, false, false] (hj5 (1 : Int32) hm)
  ·
    refine w_jn (T := fun x6 : Unit => WW G X 0 0 (wX8 G a_t m_s m_begun m_kept m_isKept m_past m_states m_text m_length m_far m_queue m_isOn m_steps m_wayCells m_turns m_visits m_wasSo m_bestAway m_bestMade m_bestFault m_isHere m_place m_reason m_wide m_high) [none, some (.int g1), some (.int g2), none] 18 [.int (2 : Int32)]) hm (fun x6 hm => ?_) (fun j7 hj7 hm => ?_)
    ·
      refine w_iload_n (pc := 18) hX dX8_numberOf_18 rfl rfl ?_
      refine w_goto (pc := 19) (tgt := 23) hX dX8_numberOf_19 (by decide) ?_
      exact w_lvs [false, false, true, false] (hj3 g1 hm)
    ·
      refine w_icmp_eq (pc := 10) (tgt := 18) hX dX8_numberOf_10 (by decide) hm (fun hm => ?_) (fun hm => ?_)
      ·
        exact w_lvs [false, true, true, false] (hj7 () hm)
      ·
        refine w_iload_n (pc := 13) hX dX8_numberOf_13 rfl rfl ?_
        refine w_iconst (pc := 14) hX dX8_numberOf_14 ic_2 ?_
        refine w_icmp_ne (pc := 15) (tgt := 22) hX dX8_numberOf_15 (by decide) hm (fun hm => ?_) (fun hm => ?_)
        ·
          refine w_iload_n (pc := 22) hX dX8_numberOf_22 rfl rfl ?_
          exact w_lvs [false, false, true, false] (hj3 r1 hm)
        ·
          exact w_lvs [false, true, true, false] (hj7 () hm)

theorem lX8_isOpen_X8 : ∀ w ∈ wsX80, w ∈ wsX8_isOpen := in_at [11, 12, 13, 14, 15, 16, 17, 18, 19, 20, 21, 22, 23, 24, 25, 26, 27, 28, 29, 30, 31, 32, 33, 34] (by decide +kernel)
set_option maxHeartbeats 4000000 in
set_option maxRecDepth 100000 in
theorem ctX8_isOpen (G : gT) (a_t : Nat → Nat) (m_s : nF) (m_begun : nF) (m_kept : nF) (m_isKept : Int32) (m_past : nF) (m_states : Int32) (m_text : nF) (m_length : Int32) (m_far : nF) (m_queue : nF) (m_isOn : nF) (m_steps : nF) (m_wayCells : Int32) (m_turns : Int32) (m_visits : nF) (m_wasSo : nF) (m_bestAway : Int32) (m_bestMade : Int32) (m_bestFault : Int32) (m_isHere : nF) (m_place : Int32) (m_reason : Int32) (m_wide : Int32) (m_high : Int32) (g1 : Int32) (g2 : Int32) (o : Int32) (hm : mX8_isOpen m_s g1 g2 = some o) : CT G yX8_isOpen wsX8_isOpen rmX8_isOpen [.ref (a_t 0), .int g1, .int g2] (wX8 G a_t m_s m_begun m_kept m_isKept m_past m_states m_text m_length m_far m_queue m_isOn m_steps m_wayCells m_turns m_visits m_wasSo m_bestAway m_bestMade m_bestFault m_isHere m_place m_reason m_wide m_high) (fun v w => v = some (.int o) ∧ w = wX8 G a_t m_s m_begun m_kept m_isKept m_past m_states m_text m_length m_far m_queue m_isOn m_steps m_wayCells m_turns m_visits m_wasSo m_bestAway m_bestMade m_bestFault m_isHere m_place m_reason m_wide m_high) := by
  refine CT_of (cc := cX8_isOpen) (maxL := 3) (ret := (some .boolean)) 0 (by decide +kernel) rfl rfl (cat_ok rfl) (fun X hX hR hN => ?_)
  have hX : Ok G X cX8_isOpen RX8 wsX8_isOpen 3 rmX8_isOpen := hX
  have hX8 : ∀ w ∈ wsX80, w ∈ wsX8_isOpen := lX8_isOpen_X8
  unfold mX8_isOpen at hm
  refine w_aload_n (pc := 0) hX dX8_isOpen_0 rfl rfl ?_
  refine w_iload_n (pc := 1) hX dX8_isOpen_1 rfl rfl ?_
  refine w_iload_n (pc := 2) hX dX8_isOpen_2 rfl rfl ?_
  obtain ⟨r1, hr1, hm⟩ := bnd hm
  refine w_callpi (pc := 3) hX [0, 1, 2, 3, 4, 5, 6, 7, 8, 9, 10, 11, 12] (runV (rest := []) hX [0, 1, 2, 3, 4, 5, 6, 7, 8, 9, 10, 11, 12] (ctX8_besides G a_t m_s m_begun m_kept m_isKept m_past m_states m_text m_length m_far m_queue m_isOn m_steps m_wayCells m_turns m_visits m_wasSo m_bestAway m_bestMade m_bestFault m_isHere m_place m_reason m_wide m_high g1 g2 r1 hr1) dX8_isOpen_3 2 gX8_isOpen_X8_besides rfl hyX8_besides ⟨Nat.le_of_ble_eq_true rfl, Nat.le_of_ble_eq_true rfl⟩ 0 rfl rfl rfl rfl (Nat.le_of_ble_eq_true rfl) ⟨Nat.le_of_ble_eq_true rfl, Nat.le_of_ble_eq_true rfl⟩ rfl (by decide +kernel)) rfl ⟨rfl, rfl⟩ ?_
  refine w_jn (T := fun x2 : Int32 => WW G X 0 0 (wX8 G a_t m_s m_begun m_kept m_isKept m_past m_states m_text m_length m_far m_queue m_isOn m_steps m_wayCells m_turns m_visits m_wasSo m_bestAway m_bestMade m_bestFault m_isHere m_place m_reason m_wide m_high) [none, none, none] 32 [.int x2]) hm (fun x2 hm => ?_) (fun j3 hj3 hm => ?_)
  ·
    refine w_zret (pc := 32) hX hR dX8_isOpen_32 hm (fun hm => ?_)
    obtain rfl := som hm
    exact ⟨rfl, rfl⟩
  ·
    refine w_jn (T := fun x4 : Unit => WW G X 0 0 (wX8 G a_t m_s m_begun m_kept m_isKept m_past m_states m_text m_length m_far m_queue m_isOn m_steps m_wayCells m_turns m_visits m_wasSo m_bestAway m_bestMade m_bestFault m_isHere m_place m_reason m_wide m_high) [none, none, none] 31 []) hm (fun x4 hm => ?_) (fun j5 hj5 hm => ?_)
    ·
      refine w_iconst (pc := 31) hX dX8_isOpen_31 ic_0 ?_
      exact w_lvs [false, false, false] (hj3 (0 : Int32) hm)
    ·
      refine w_if_lt (pc := 6) (tgt := 31) hX dX8_isOpen_6 (by decide) hm (fun hm => ?_) (fun hm => ?_)
      ·
        exact w_lvs [false, false, false] (hj5 () hm)
      ·
        refine w_aload_n (pc := 9) hX dX8_isOpen_9 rfl rfl ?_
        refine gf_X8_s (pc := 10) hX dX8_isOpen_10 hX8 (List.mem_of_getElem? (i := 1) rfl) 0 rfl rfl ?_
        refine w_bipush (pc := 13) hX dX8_isOpen_13 bp_42 ?_
        refine w_aload_n (pc := 15) hX dX8_isOpen_15 rfl rfl ?_
        refine w_iload_n (pc := 16) hX dX8_isOpen_16 rfl rfl ?_
        refine w_iload_n (pc := 17) hX dX8_isOpen_17 rfl rfl ?_
        obtain ⟨r6, hr6, hm⟩ := bnd hm
        refine w_callpi (pc := 18) hX [0, 1, 2, 3, 4, 5, 6, 7, 8, 9, 10, 11, 12] (runV (rest := [.int (42 : Int32), .ref (a_t 1)]) hX [0, 1, 2, 3, 4, 5, 6, 7, 8, 9, 10, 11, 12] (ctX8_numberOf G a_t m_s m_begun m_kept m_isKept m_past m_states m_text m_length m_far m_queue m_isOn m_steps m_wayCells m_turns m_visits m_wasSo m_bestAway m_bestMade m_bestFault m_isHere m_place m_reason m_wide m_high g1 g2 r6 hr6) dX8_isOpen_18 2 gX8_isOpen_X8_numberOf rfl hyX8_numberOf ⟨Nat.le_of_ble_eq_true rfl, Nat.le_of_ble_eq_true rfl⟩ 0 rfl rfl rfl rfl (Nat.le_of_ble_eq_true rfl) ⟨Nat.le_of_ble_eq_true rfl, Nat.le_of_ble_eq_true rfl⟩ rfl (by decide +kernel)) rfl ⟨rfl, rfl⟩ ?_
        refine w_iadd (pc := 21) hX dX8_isOpen_21 ?_
        refine w_iald (pc := 22) hX dX8_isOpen_22 1 rfl hm (fun hm => ?_)
        refine w_iconst (pc := 23) hX dX8_isOpen_23 ic_1 ?_
        refine w_icmp_ne (pc := 24) (tgt := 31) hX dX8_isOpen_24 (by decide) hm (fun hm => ?_) (fun hm => ?_)
        ·
          exact w_lvs [false, false, false] (hj5 () hm)
        ·
          refine w_iconst (pc := 27) hX dX8_isOpen_27 ic_1 ?_
          refine w_goto (pc := 28) (tgt := 32) hX dX8_isOpen_28 (by decide) ?_
          exact w_lvs [false, false, false] (hj3 (1 : Int32) hm)

set_option maxHeartbeats 4000000 in
set_option maxRecDepth 100000 in
theorem ctX8_second (G : gT) (a_t : Nat → Nat) (m_s : nF) (m_begun : nF) (m_kept : nF) (m_isKept : Int32) (m_past : nF) (m_states : Int32) (m_text : nF) (m_length : Int32) (m_far : nF) (m_queue : nF) (m_isOn : nF) (m_steps : nF) (m_wayCells : Int32) (m_turns : Int32) (m_visits : nF) (m_wasSo : nF) (m_bestAway : Int32) (m_bestMade : Int32) (m_bestFault : Int32) (m_isHere : nF) (m_place : Int32) (m_reason : Int32) (m_wide : Int32) (m_high : Int32) (g1 : Int32) (o : Int32) (hm : mX8_second m_s g1 = some o) : CT G yX8_second wsX8_second rmX8_second [.ref (a_t 0), .int g1] (wX8 G a_t m_s m_begun m_kept m_isKept m_past m_states m_text m_length m_far m_queue m_isOn m_steps m_wayCells m_turns m_visits m_wasSo m_bestAway m_bestMade m_bestFault m_isHere m_place m_reason m_wide m_high) (fun v w => v = some (.int o) ∧ w = wX8 G a_t m_s m_begun m_kept m_isKept m_past m_states m_text m_length m_far m_queue m_isOn m_steps m_wayCells m_turns m_visits m_wasSo m_bestAway m_bestMade m_bestFault m_isHere m_place m_reason m_wide m_high) := by
  refine CT_of (cc := cX8_second) (maxL := 2) (ret := (some .int)) 0 (by decide +kernel) rfl rfl (cat_ok rfl) (fun X hX hR hN => ?_)
  have hX : Ok G X cX8_second RX8 wsX8_second 2 rmX8_second := hX
  unfold mX8_second at hm
  refine w_aload_n (pc := 0) hX dX8_second_0 rfl rfl ?_
  refine w_iload_n (pc := 1) hX dX8_second_1 rfl rfl ?_
  refine w_iconst (pc := 2) hX dX8_second_2 ic_2 ?_
  refine w_idiv (pc := 3) hX dX8_second_3 hm (fun hm => ?_)
  refine w_iload_n (pc := 4) hX dX8_second_4 rfl rfl ?_
  refine w_iconst (pc := 5) hX dX8_second_5 ic_2 ?_
  refine w_irem (pc := 6) hX dX8_second_6 hm (fun hm => ?_)
  refine w_jn (T := fun x1 : Int32 => WW G X 0 0 (wX8 G a_t m_s m_begun m_kept m_isKept m_past m_states m_text m_length m_far m_queue m_isOn m_steps m_wayCells m_turns m_visits m_wasSo m_bestAway m_bestMade m_bestFault m_isHere m_place m_reason m_wide m_high) [none, none] 15 [.int x1, .int (g1 / (2 : Int32)), .ref (a_t 0)]) hm (fun x1 hm => ?_) (fun j2 hj2 hm => ?_)
  ·
    obtain ⟨r3, hr3, hm⟩ := bnd hm
    refine w_callpi (pc := 15) hX [0, 1, 2, 3, 4, 5, 6, 7, 8, 9, 10, 11, 12] (runV (rest := []) hX [0, 1, 2, 3, 4, 5, 6, 7, 8, 9, 10, 11, 12] (ctX8_besides G a_t m_s m_begun m_kept m_isKept m_past m_states m_text m_length m_far m_queue m_isOn m_steps m_wayCells m_turns m_visits m_wasSo m_bestAway m_bestMade m_bestFault m_isHere m_place m_reason m_wide m_high (g1 / (2 : Int32)) x1 r3 hr3) dX8_second_15 2 gX8_second_X8_besides rfl hyX8_besides ⟨Nat.le_of_ble_eq_true rfl, Nat.le_of_ble_eq_true rfl⟩ 0 rfl rfl rfl rfl (Nat.le_of_ble_eq_true rfl) ⟨Nat.le_of_ble_eq_true rfl, Nat.le_of_ble_eq_true rfl⟩ rfl (by decide +kernel)) rfl ⟨rfl, rfl⟩ ?_
    obtain rfl := som hm
    exact w_iret (pc := 18) hX hR dX8_second_18 ⟨rfl, rfl⟩
  ·
    refine w_if_ne (pc := 7) (tgt := 14) hX dX8_second_7 (by decide) hm (fun hm => ?_) (fun hm => ?_)
    ·
      refine w_iconst (pc := 14) hX dX8_second_14 ic_2 ?_
      exact w_lvs [false, false] (hj2 (2 : Int32) hm)
    ·
      refine w_iconst (pc := 10) hX dX8_second_10 ic_1 ?_
      refine w_goto (pc := 11) (tgt := 15) hX dX8_second_11 (by decide) ?_
      exact w_lvs [false, false] (hj2 (1 : Int32) hm)

theorem lX8_measures_X8 : ∀ w ∈ wsX80, w ∈ wsX8_measures := in_at [21, 22, 23, 24, 25, 26, 27, 28, 29, 30, 31, 32, 33, 34, 35, 36, 37, 38, 39, 40, 41, 42, 43, 44] (by decide +kernel)
set_option maxHeartbeats 4000000 in
set_option maxRecDepth 100000 in
theorem ctX8_measures (G : gT) (F : Nat) (a_t : Nat → Nat) (m_s : nF) (m_begun : nF) (m_kept : nF) (m_isKept : Int32) (m_past : nF) (m_states : Int32) (m_text : nF) (m_length : Int32) (m_far : nF) (m_queue : nF) (m_isOn : nF) (m_steps : nF) (m_wayCells : Int32) (m_turns : Int32) (m_visits : nF) (m_wasSo : nF) (m_bestAway : Int32) (m_bestMade : Int32) (m_bestFault : Int32) (m_isHere : nF) (m_place : Int32) (m_reason : Int32) (m_wide : Int32) (m_high : Int32) (g1 : Int32) (o : (nF × nF)) (hm : mX8_measures F m_s m_far m_queue g1 = some o) : CT G yX8_measures wsX8_measures rmX8_measures [.ref (a_t 0), .int g1] (wX8 G a_t m_s m_begun m_kept m_isKept m_past m_states m_text m_length m_far m_queue m_isOn m_steps m_wayCells m_turns m_visits m_wasSo m_bestAway m_bestMade m_bestFault m_isHere m_place m_reason m_wide m_high) (fun v w => v = none ∧ w = wX8 G a_t m_s m_begun m_kept m_isKept m_past m_states m_text m_length o.1 o.2 m_isOn m_steps m_wayCells m_turns m_visits m_wasSo m_bestAway m_bestMade m_bestFault m_isHere m_place m_reason m_wide m_high) := by
  refine CT_of (cc := cX8_measures) (maxL := 7) (ret := none) 5 (by decide +kernel) rfl rfl (cat_ok rfl) (fun X hX hR hN => ?_)
  have hX : Ok G X cX8_measures RX8 wsX8_measures 7 rmX8_measures := hX
  have hX8 : ∀ w ∈ wsX80, w ∈ wsX8_measures := lX8_measures_X8
  unfold mX8_measures at hm
  refine w_iconst (pc := 0) hX dX8_measures_0 ic_0 ?_
  refine w_istore_n (pc := 1) hX dX8_measures_1 rfl (Nat.le_of_ble_eq_true rfl) ?_
  refine w_jn (T := fun x1 : nF => WW G X 0 0 (wX8 G a_t m_s m_begun m_kept m_isKept m_past m_states m_text m_length x1 m_queue m_isOn m_steps m_wayCells m_turns m_visits m_wasSo m_bestAway m_bestMade m_bestFault m_isHere m_place m_reason m_wide m_high) [some (.ref (a_t 0)), some (.int g1), none, none, none, none, none] 23 []) hm (fun x1 hm => ?_) (fun j2 hj2 hm => ?_)
  ·
    unfold mX8_measures_K23 at hm
    refine w_aload_n (pc := 23) hX dX8_measures_23 rfl rfl ?_
    refine gf_X8_far (pc := 24) hX dX8_measures_24 hX8 (List.mem_of_getElem? (i := 1) rfl) 0 rfl rfl ?_
    refine w_iload_n (pc := 27) hX dX8_measures_27 rfl rfl ?_
    refine w_iconst (pc := 28) hX dX8_measures_28 ic_0 ?_
    refine w_iast (pc := 29) hX dX8_measures_29 6 rfl hm (fun hm => ?_)
    refine w_aload_n (pc := 30) hX dX8_measures_30 rfl rfl ?_
    refine gf_X8_queue (pc := 31) hX dX8_measures_31 hX8 (List.mem_of_getElem? (i := 2) rfl) 0 rfl rfl ?_
    refine w_iconst (pc := 34) hX dX8_measures_34 ic_0 ?_
    refine w_iload_n (pc := 35) hX dX8_measures_35 rfl rfl ?_
    refine w_iast (pc := 36) hX dX8_measures_36 7 rfl hm (fun hm => ?_)
    refine w_iconst (pc := 37) hX dX8_measures_37 ic_1 ?_
    refine w_istore_n (pc := 38) hX dX8_measures_38 rfl (Nat.le_of_ble_eq_true rfl) ?_
    refine w_iconst (pc := 39) hX dX8_measures_39 ic_0 ?_
    refine w_istore_n (pc := 40) hX dX8_measures_40 rfl (Nat.le_of_ble_eq_true rfl) ?_
    refine w_lvs [true, false, true, true, false, false, false] ?_
    refine lpr_ind (T := fun x3 : (Int32 × Int32 × nF × nF) => WW G X 0 0 (wX8 G a_t m_s m_begun m_kept m_isKept m_past m_states m_text m_length x3.2.2.1 x3.2.2.2 m_isOn m_steps m_wayCells m_turns m_visits m_wasSo m_bestAway m_bestMade m_bestFault m_isHere m_place m_reason m_wide m_high) [some (.ref (a_t 0)), none, some (.int x3.1), some (.int x3.2.1), none, none, none] 41 []) (fun self4 hself4 x3 hm => ?_) F ((1 : Int32), (0 : Int32), (upd x1 g1.toNatClampNeg (0 : Int32)), (upd m_queue (0 : Int32).toNatClampNeg g1)) hm
    unfold mX8_measures_L41 at hm
    refine w_iload_n (pc := 41) hX dX8_measures_41 rfl rfl ?_
    refine w_iload_n (pc := 42) hX dX8_measures_42 rfl rfl ?_
    refine w_icmp_ge (pc := 43) (tgt := 142) hX dX8_measures_43 (by decide) hm (fun hm => ?_) (fun hm => ?_)
    ·
      obtain rfl := som hm
      exact w_vret (pc := 142) hX hR dX8_measures_142 ⟨rfl, rfl⟩
    ·
      refine w_aload_n (pc := 46) hX dX8_measures_46 rfl rfl ?_
      refine gf_X8_queue (pc := 47) hX dX8_measures_47 hX8 (List.mem_of_getElem? (i := 2) rfl) 0 rfl rfl ?_
      refine w_iload_n (pc := 50) hX dX8_measures_50 rfl rfl ?_
      refine w_iald (pc := 51) hX dX8_measures_51 7 rfl hm (fun hm => ?_)
      refine w_istore (pc := 52) hX dX8_measures_52 (Nat.le_of_ble_eq_true rfl) ?_
      refine w_iconst (pc := 54) hX dX8_measures_54 ic_0 ?_
      refine w_istore (pc := 55) hX dX8_measures_55 (Nat.le_of_ble_eq_true rfl) ?_
      refine w_jn (T := fun x5 : (Int32 × nF × nF) => WW G X 0 0 (wX8 G a_t m_s m_begun m_kept m_isKept m_past m_states m_text m_length x5.2.1 x5.2.2 m_isOn m_steps m_wayCells m_turns m_visits m_wasSo m_bestAway m_bestMade m_bestFault m_isHere m_place m_reason m_wide m_high) [some (.ref (a_t 0)), none, some (.int x5.1), some (.int x3.2.1), none, none, none] 136 []) hm (fun x5 hm => ?_) (fun j6 hj6 hm => ?_)
      ·
        unfold mX8_measures_K136 at hm
        refine w_iinc (pc := 136) hX dX8_measures_136 rfl (Nat.le_of_ble_eq_true rfl) ic_1 ?_
        refine w_goto (pc := 139) (tgt := 41) hX dX8_measures_139 (by decide) ?_
        exact w_lvs [true, false, true, true, false, false, false] (hself4 (x5.1, x3.2.1 + (1 : Int32), x5.2.1, x5.2.2) hm)
      ·
        refine w_lvs [true, false, true, true, true, true, false] ?_
        refine lpr_ind (T := fun x7 : (Int32 × Int32 × nF × nF) => WW G X 0 0 (wX8 G a_t m_s m_begun m_kept m_isKept m_past m_states m_text m_length x7.2.2.1 x7.2.2.2 m_isOn m_steps m_wayCells m_turns m_visits m_wasSo m_bestAway m_bestMade m_bestFault m_isHere m_place m_reason m_wide m_high) [some (.ref (a_t 0)), none, some (.int x7.1), some (.int x3.2.1), some (.int (x3.2.2.2 x3.2.1.toNatClampNeg)), some (.int x7.2.1), none] 57 []) (fun self8 hself8 x7 hm => ?_) F (x3.1, (0 : Int32), x3.2.2.1, x3.2.2.2) hm
        unfold mX8_measures_L57 at hm
        refine w_iload (pc := 57) hX dX8_measures_57 rfl ?_
        refine w_iconst (pc := 59) hX dX8_measures_59 ic_4 ?_
        refine w_icmp_ge (pc := 60) (tgt := 136) hX dX8_measures_60 (by decide) hm (fun hm => ?_) (fun hm => ?_)
        ·
          exact w_lvs [true, false, true, true, false, false, false] (hj6 (x7.1, x7.2.2.1, x7.2.2.2) hm)
        ·
          refine w_aload_n (pc := 63) hX dX8_measures_63 rfl rfl ?_
          refine w_iload (pc := 64) hX dX8_measures_64 rfl ?_
          refine w_iload (pc := 66) hX dX8_measures_66 rfl ?_
          obtain ⟨r9, hr9, hm⟩ := bnd hm
          refine w_callpi (pc := 68) hX [0, 1, 2, 3, 4, 5, 6, 7, 8, 9, 10, 11, 12] (runV (rest := []) hX [0, 1, 2, 3, 4, 5, 6, 7, 8, 9, 10, 11, 12] (ctX8_isOpen G a_t m_s m_begun m_kept m_isKept m_past m_states m_text m_length x7.2.2.1 x7.2.2.2 m_isOn m_steps m_wayCells m_turns m_visits m_wasSo m_bestAway m_bestMade m_bestFault m_isHere m_place m_reason m_wide m_high (x3.2.2.2 x3.2.1.toNatClampNeg) x7.2.1 r9 hr9) dX8_measures_68 2 gX8_measures_X8_isOpen rfl hyX8_isOpen ⟨Nat.le_of_ble_eq_true rfl, Nat.le_of_ble_eq_true rfl⟩ 0 rfl rfl rfl rfl (Nat.le_of_ble_eq_true rfl) ⟨Nat.le_of_ble_eq_true rfl, Nat.le_of_ble_eq_true rfl⟩ rfl (by decide +kernel)) rfl ⟨rfl, rfl⟩ ?_
          refine w_jn (T := fun x10 : Int32 => WW G X 0 0 (wX8 G a_t m_s m_begun m_kept m_isKept m_past m_states m_text m_length x7.2.2.1 x7.2.2.2 m_isOn m_steps m_wayCells m_turns m_visits m_wasSo m_bestAway m_bestMade m_bestFault m_isHere m_place m_reason m_wide m_high) [some (.ref (a_t 0)), none, some (.int x7.1), some (.int x3.2.1), some (.int (x3.2.2.2 x3.2.1.toNatClampNeg)), some (.int x7.2.1), none] 86 [.int x10]) hm (fun x10 hm => ?_) (fun j11 hj11 hm => ?_)
          ·
            refine w_istore (pc := 86) hX dX8_measures_86 (Nat.le_of_ble_eq_true rfl) ?_
            refine w_iload (pc := 88) hX dX8_measures_88 rfl ?_
            refine w_jn (T := fun x12 : (Int32 × nF × nF) => WW G X 0 0 (wX8 G a_t m_s m_begun m_kept m_isKept m_past m_states m_text m_length x12.2.1 x12.2.2 m_isOn m_steps m_wayCells m_turns m_visits m_wasSo m_bestAway m_bestMade m_bestFault m_isHere m_place m_reason m_wide m_high) [some (.ref (a_t 0)), none, some (.int x12.1), some (.int x3.2.1), some (.int (x3.2.2.2 x3.2.1.toNatClampNeg)), some (.int x7.2.1), none] 130 []) hm (fun x12 hm => ?_) (fun j13 hj13 hm => ?_)
            ·
              refine w_iinc (pc := 130) hX dX8_measures_130 rfl (Nat.le_of_ble_eq_true rfl) ic_1 ?_
              refine w_goto (pc := 133) (tgt := 57) hX dX8_measures_133 (by decide) ?_
              exact w_lvs [true, false, true, true, true, true, false] (hself8 (x12.1, x7.2.1 + (1 : Int32), x12.2.1, x12.2.2) hm)
            ·
              refine w_if_lt (pc := 90) (tgt := 130) hX dX8_measures_90 (by decide) hm (fun hm => ?_) (fun hm => ?_)
              ·
                exact w_lvs [true, false, true, true, true, true, false] (hj13 (x7.1, x7.2.2.1, x7.2.2.2) hm)
              ·
                refine w_aload_n (pc := 93) hX dX8_measures_93 rfl rfl ?_
                refine gf_X8_far (pc := 94) hX dX8_measures_94 hX8 (List.mem_of_getElem? (i := 1) rfl) 0 rfl rfl ?_
                refine w_iload (pc := 97) hX dX8_measures_97 rfl ?_
                refine w_iald (pc := 99) hX dX8_measures_99 6 rfl hm (fun hm => ?_)
                refine w_if_ge (pc := 100) (tgt := 130) hX dX8_measures_100 (by decide) hm (fun hm => ?_) (fun hm => ?_)
                ·
                  exact w_lvs [true, false, true, true, true, true, false] (hj13 (x7.1, x7.2.2.1, x7.2.2.2) hm)
                ·
                  refine w_aload_n (pc := 103) hX dX8_measures_103 rfl rfl ?_
                  refine gf_X8_far (pc := 104) hX dX8_measures_104 hX8 (List.mem_of_getElem? (i := 1) rfl) 0 rfl rfl ?_
                  refine w_iload (pc := 107) hX dX8_measures_107 rfl ?_
                  refine w_aload_n (pc := 109) hX dX8_measures_109 rfl rfl ?_
                  refine gf_X8_far (pc := 110) hX dX8_measures_110 hX8 (List.mem_of_getElem? (i := 1) rfl) 0 rfl rfl ?_
                  refine w_iload (pc := 113) hX dX8_measures_113 rfl ?_
                  refine w_iald (pc := 115) hX dX8_measures_115 6 rfl hm (fun hm => ?_)
                  refine w_iconst (pc := 116) hX dX8_measures_116 ic_1 ?_
                  refine w_iadd (pc := 117) hX dX8_measures_117 ?_
                  refine w_iast (pc := 118) hX dX8_measures_118 6 rfl hm (fun hm => ?_)
                  refine w_aload_n (pc := 119) hX dX8_measures_119 rfl rfl ?_
                  refine gf_X8_queue (pc := 120) hX dX8_measures_120 hX8 (List.mem_of_getElem? (i := 2) rfl) 0 rfl rfl ?_
                  refine w_iload_n (pc := 123) hX dX8_measures_123 rfl rfl ?_
                  refine w_iload (pc := 124) hX dX8_measures_124 rfl ?_
                  refine w_iast (pc := 126) hX dX8_measures_126 7 rfl hm (fun hm => ?_)
                  refine w_iinc (pc := 127) hX dX8_measures_127 rfl (Nat.le_of_ble_eq_true rfl) ic_1 ?_
                  exact w_lvs [true, false, true, true, true, true, false] (hj13 (x7.1 + (1 : Int32), (upd x7.2.2.1 x10.toNatClampNeg ((x7.2.2.1 (x3.2.2.2 x3.2.1.toNatClampNeg).toNatClampNeg) + (1 : Int32))), (upd x7.2.2.2 x7.1.toNatClampNeg x10)) hm)
          ·
            refine w_if_eq (pc := 71) (tgt := 85) hX dX8_measures_71 (by decide) hm (fun hm => ?_) (fun hm => ?_)
            ·
              refine w_iconst (pc := 85) hX dX8_measures_85 ic_m1 ?_
              exact w_lvs [true, false, true, true, true, true, false] (hj11 (-1 : Int32) hm)
            ·
              refine w_aload_n (pc := 74) hX dX8_measures_74 rfl rfl ?_
              refine w_iload (pc := 75) hX dX8_measures_75 rfl ?_
              refine w_iload (pc := 77) hX dX8_measures_77 rfl ?_
              obtain ⟨r14, hr14, hm⟩ := bnd hm
              refine w_callpi (pc := 79) hX [0, 1, 2, 3, 4, 5, 6, 7, 8, 9, 10, 11, 12] (runV (rest := []) hX [0, 1, 2, 3, 4, 5, 6, 7, 8, 9, 10, 11, 12] (ctX8_besides G a_t m_s m_begun m_kept m_isKept m_past m_states m_text m_length x7.2.2.1 x7.2.2.2 m_isOn m_steps m_wayCells m_turns m_visits m_wasSo m_bestAway m_bestMade m_bestFault m_isHere m_place m_reason m_wide m_high (x3.2.2.2 x3.2.1.toNatClampNeg) x7.2.1 r14 hr14) dX8_measures_79 2 gX8_measures_X8_besides rfl hyX8_besides ⟨Nat.le_of_ble_eq_true rfl, Nat.le_of_ble_eq_true rfl⟩ 0 rfl rfl rfl rfl (Nat.le_of_ble_eq_true rfl) ⟨Nat.le_of_ble_eq_true rfl, Nat.le_of_ble_eq_true rfl⟩ rfl (by decide +kernel)) rfl ⟨rfl, rfl⟩ ?_
              refine w_goto (pc := 82) (tgt := 86) hX dX8_measures_82 (by decide) ?_
              exact w_lvs [true, false, true, true, true, true, false] (hj11 r14 hm)
  ·
    refine w_lvs [true, true, true, false, false, false, false] ?_
    refine lpr_ind (T := fun x15 : (Int32 × nF) => WW G X 0 0 (wX8 G a_t m_s m_begun m_kept m_isKept m_past m_states m_text m_length x15.2 m_queue m_isOn m_steps m_wayCells m_turns m_visits m_wasSo m_bestAway m_bestMade m_bestFault m_isHere m_place m_reason m_wide m_high) [some (.ref (a_t 0)), some (.int g1), some (.int x15.1), none, none, none, none] 2 []) (fun self16 hself16 x15 hm => ?_) F ((0 : Int32), m_far) hm
    unfold mX8_measures_L2 at hm
    refine w_iload_n (pc := 2) hX dX8_measures_2 rfl rfl ?_
    refine w_aload_n (pc := 3) hX dX8_measures_3 rfl rfl ?_
    obtain ⟨r17, hr17, hm⟩ := bnd hm
    refine w_callpi (pc := 4) hX [0, 1, 2, 3, 4, 5, 6, 7, 8, 9, 10, 11, 12] (runV (rest := [.int x15.1]) hX [0, 1, 2, 3, 4, 5, 6, 7, 8, 9, 10, 11, 12] (ctX8_cells G a_t m_s m_begun m_kept m_isKept m_past m_states m_text m_length x15.2 m_queue m_isOn m_steps m_wayCells m_turns m_visits m_wasSo m_bestAway m_bestMade m_bestFault m_isHere m_place m_reason m_wide m_high r17 hr17) dX8_measures_4 0 gX8_measures_X8_cells rfl hyX8_cells ⟨Nat.le_of_ble_eq_true rfl, Nat.le_of_ble_eq_true rfl⟩ 0 rfl rfl rfl rfl (Nat.le_of_ble_eq_true rfl) ⟨Nat.le_of_ble_eq_true rfl, Nat.le_of_ble_eq_true rfl⟩ rfl (by decide +kernel)) rfl ⟨rfl, rfl⟩ ?_
    refine w_icmp_ge (pc := 7) (tgt := 23) hX dX8_measures_7 (by decide) hm (fun hm => ?_) (fun hm => ?_)
    ·
      exact w_lvs [true, true, false, false, false, false, false] (hj2 x15.2 hm)
    ·
      refine w_aload_n (pc := 10) hX dX8_measures_10 rfl rfl ?_
      refine gf_X8_far (pc := 11) hX dX8_measures_11 hX8 (List.mem_of_getElem? (i := 1) rfl) 0 rfl rfl ?_
      refine w_iload_n (pc := 14) hX dX8_measures_14 rfl rfl ?_
      refine w_iconst (pc := 15) hX dX8_measures_15 ic_m1 ?_
      refine w_iast (pc := 16) hX dX8_measures_16 6 rfl hm (fun hm => ?_)
      refine w_iinc (pc := 17) hX dX8_measures_17 rfl (Nat.le_of_ble_eq_true rfl) ic_1 ?_
      refine w_goto (pc := 20) (tgt := 2) hX dX8_measures_20 (by decide) ?_
      exact w_lvs [true, true, true, false, false, false, false] (hself16 (x15.1 + (1 : Int32), (upd x15.2 x15.1.toNatClampNeg (-1 : Int32))) hm)

theorem lX8_areJoined_X8 : ∀ w ∈ wsX80, w ∈ wsX8_areJoined := in_at [25, 26, 27, 28, 29, 30, 31, 32, 33, 34, 35, 36, 37, 38, 39, 40, 41, 42, 43, 44, 45, 46, 47, 48] (by decide +kernel)
set_option maxHeartbeats 4000000 in
set_option maxRecDepth 100000 in
theorem ctX8_areJoined (G : gT) (F : Nat) (a_t : Nat → Nat) (m_s : nF) (m_begun : nF) (m_kept : nF) (m_isKept : Int32) (m_past : nF) (m_states : Int32) (m_text : nF) (m_length : Int32) (m_far : nF) (m_queue : nF) (m_isOn : nF) (m_steps : nF) (m_wayCells : Int32) (m_turns : Int32) (m_visits : nF) (m_wasSo : nF) (m_bestAway : Int32) (m_bestMade : Int32) (m_bestFault : Int32) (m_isHere : nF) (m_place : Int32) (m_reason : Int32) (m_wide : Int32) (m_high : Int32) (g1 : Int32) (g2 : Int32) (o : (Int32 × nF × nF)) (hm : mX8_areJoined F m_s m_far m_queue g1 g2 = some o) : CT G yX8_areJoined wsX8_areJoined rmX8_areJoined [.ref (a_t 0), .int g1, .int g2] (wX8 G a_t m_s m_begun m_kept m_isKept m_past m_states m_text m_length m_far m_queue m_isOn m_steps m_wayCells m_turns m_visits m_wasSo m_bestAway m_bestMade m_bestFault m_isHere m_place m_reason m_wide m_high) (fun v w => v = some (.int o.1) ∧ w = wX8 G a_t m_s m_begun m_kept m_isKept m_past m_states m_text m_length o.2.1 o.2.2 m_isOn m_steps m_wayCells m_turns m_visits m_wasSo m_bestAway m_bestMade m_bestFault m_isHere m_place m_reason m_wide m_high) := by
  refine CT_of (cc := cX8_areJoined) (maxL := 3) (ret := (some .boolean)) 0 (by decide +kernel) rfl rfl (cat_ok rfl) (fun X hX hR hN => ?_)
  have hX : Ok G X cX8_areJoined RX8 wsX8_areJoined 3 rmX8_areJoined := hX
  have hX8 : ∀ w ∈ wsX80, w ∈ wsX8_areJoined := lX8_areJoined_X8
  unfold mX8_areJoined at hm
  refine w_aload_n (pc := 0) hX dX8_areJoined_0 rfl rfl ?_
  refine w_iload_n (pc := 1) hX dX8_areJoined_1 rfl rfl ?_
  obtain ⟨r1, hr1, hm⟩ := bnd hm
  refine w_calldv (pc := 2) (ws' := wX8 G a_t m_s m_begun m_kept m_isKept m_past m_states m_text m_length r1.1 r1.2 m_isOn m_steps m_wayCells m_turns m_visits m_wasSo m_bestAway m_bestMade m_bestFault m_isHere m_place m_reason m_wide m_high) (os := [some 0, some 1, some 2, some 3, some 4, some 5, some 6, some 7, some 8, some 9, some 10, some 11, some 12]) 13 hX [0, 1, 2, 3, 4, 5, 6, 7, 8, 9, 10, 11, 12] (runV (rest := []) hX [0, 1, 2, 3, 4, 5, 6, 7, 8, 9, 10, 11, 12] (ctX8_measures G F a_t m_s m_begun m_kept m_isKept m_past m_states m_text m_length m_far m_queue m_isOn m_steps m_wayCells m_turns m_visits m_wasSo m_bestAway m_bestMade m_bestFault m_isHere m_place m_reason m_wide m_high g1 r1 hr1) dX8_areJoined_2 1 gX8_areJoined_X8_measures rfl hyX8_measures ⟨Nat.le_of_ble_eq_true rfl, Nat.le_of_ble_eq_true rfl⟩ 0 rfl rfl rfl rfl (Nat.le_of_ble_eq_true rfl) ⟨Nat.le_of_ble_eq_true rfl, Nat.le_of_ble_eq_true rfl⟩ rfl (by decide +kernel)) rfl rfl rfl (by decide +kernel) rfl ⟨rfl, rfl⟩ ?_
  refine w_aload_n (pc := 5) hX dX8_areJoined_5 rfl rfl ?_
  refine gf_X8_far (pc := 6) hX dX8_areJoined_6 hX8 (List.mem_of_getElem? (i := 1) rfl) 0 rfl rfl ?_
  refine w_iload_n (pc := 9) hX dX8_areJoined_9 rfl rfl ?_
  refine w_iald (pc := 10) hX dX8_areJoined_10 6 rfl hm (fun hm => ?_)
  refine w_jn (T := fun x2 : Int32 => WW G X 0 0 (wX8 G a_t m_s m_begun m_kept m_isKept m_past m_states m_text m_length r1.1 r1.2 m_isOn m_steps m_wayCells m_turns m_visits m_wasSo m_bestAway m_bestMade m_bestFault m_isHere m_place m_reason m_wide m_high) [none, none, none] 19 [.int x2]) hm (fun x2 hm => ?_) (fun j3 hj3 hm => ?_)
  ·
    refine w_zret (pc := 19) hX hR dX8_areJoined_19 hm (fun hm => ?_)
    obtain rfl := som hm
    exact ⟨rfl, rfl⟩
  ·
    refine w_if_lt (pc := 11) (tgt := 18) hX dX8_areJoined_11 (by decide) hm (fun hm => ?_) (fun hm => ?_)
    ·
      refine w_iconst (pc := 18) hX dX8_areJoined_18 ic_0 ?_
      exact w_lvs [false, false, false] (hj3 (0 : Int32) hm)
    ·
      refine w_iconst (pc := 14) hX dX8_areJoined_14 ic_1 ?_
      refine w_goto (pc := 15) (tgt := 19) hX dX8_areJoined_15 (by decide) ?_
      exact w_lvs [false, false, false] (hj3 (1 : Int32) hm)

theorem lX8_passages_X8 : ∀ w ∈ wsX80, w ∈ wsX8_passages := in_at [7, 8, 9, 10, 11, 12, 13, 14, 15, 16, 17, 18, 19, 20, 21, 22, 23, 24, 25, 26, 27, 28, 29, 30] (by decide +kernel)
set_option maxHeartbeats 4000000 in
set_option maxRecDepth 100000 in
theorem ctX8_passages (G : gT) (F : Nat) (a_t : Nat → Nat) (m_s : nF) (m_begun : nF) (m_kept : nF) (m_isKept : Int32) (m_past : nF) (m_states : Int32) (m_text : nF) (m_length : Int32) (m_far : nF) (m_queue : nF) (m_isOn : nF) (m_steps : nF) (m_wayCells : Int32) (m_turns : Int32) (m_visits : nF) (m_wasSo : nF) (m_bestAway : Int32) (m_bestMade : Int32) (m_bestFault : Int32) (m_isHere : nF) (m_place : Int32) (m_reason : Int32) (m_wide : Int32) (m_high : Int32) (o : Int32) (hm : mX8_passages F m_s = some o) : CT G yX8_passages wsX8_passages rmX8_passages [.ref (a_t 0)] (wX8 G a_t m_s m_begun m_kept m_isKept m_past m_states m_text m_length m_far m_queue m_isOn m_steps m_wayCells m_turns m_visits m_wasSo m_bestAway m_bestMade m_bestFault m_isHere m_place m_reason m_wide m_high) (fun v w => v = some (.int o) ∧ w = wX8 G a_t m_s m_begun m_kept m_isKept m_past m_states m_text m_length m_far m_queue m_isOn m_steps m_wayCells m_turns m_visits m_wasSo m_bestAway m_bestMade m_bestFault m_isHere m_place m_reason m_wide m_high) := by
  refine CT_of (cc := cX8_passages) (maxL := 3) (ret := (some .int)) 2 (by decide +kernel) rfl rfl (cat_ok rfl) (fun X hX hR hN => ?_)
  have hX : Ok G X cX8_passages RX8 wsX8_passages 3 rmX8_passages := hX
  have hX8 : ∀ w ∈ wsX80, w ∈ wsX8_passages := lX8_passages_X8
  unfold mX8_passages at hm
  refine w_iconst (pc := 0) hX dX8_passages_0 ic_0 ?_
  refine w_istore_n (pc := 1) hX dX8_passages_1 rfl (Nat.le_of_ble_eq_true rfl) ?_
  refine w_iconst (pc := 2) hX dX8_passages_2 ic_0 ?_
  refine w_istore_n (pc := 3) hX dX8_passages_3 rfl (Nat.le_of_ble_eq_true rfl) ?_
  refine w_lvs [true, true, true] ?_
  refine lpr_ind (T := fun x1 : (Int32 × Int32) => WW G X 0 0 (wX8 G a_t m_s m_begun m_kept m_isKept m_past m_states m_text m_length m_far m_queue m_isOn m_steps m_wayCells m_turns m_visits m_wasSo m_bestAway m_bestMade m_bestFault m_isHere m_place m_reason m_wide m_high) [some (.ref (a_t 0)), some (.int x1.1), some (.int x1.2)] 4 []) (fun self2 hself2 x1 hm => ?_) F ((0 : Int32), (0 : Int32)) hm
  unfold mX8_passages_L4 at hm
  refine w_iload_n (pc := 4) hX dX8_passages_4 rfl rfl ?_
  refine w_iconst (pc := 5) hX dX8_passages_5 ic_2 ?_
  refine w_aload_n (pc := 6) hX dX8_passages_6 rfl rfl ?_
  obtain ⟨r3, hr3, hm⟩ := bnd hm
  refine w_callpi (pc := 7) hX [0, 1, 2, 3, 4, 5, 6, 7, 8, 9, 10, 11, 12] (runV (rest := [.int (2 : Int32), .int x1.2]) hX [0, 1, 2, 3, 4, 5, 6, 7, 8, 9, 10, 11, 12] (ctX8_cells G a_t m_s m_begun m_kept m_isKept m_past m_states m_text m_length m_far m_queue m_isOn m_steps m_wayCells m_turns m_visits m_wasSo m_bestAway m_bestMade m_bestFault m_isHere m_place m_reason m_wide m_high r3 hr3) dX8_passages_7 0 gX8_passages_X8_cells rfl hyX8_cells ⟨Nat.le_of_ble_eq_true rfl, Nat.le_of_ble_eq_true rfl⟩ 0 rfl rfl rfl rfl (Nat.le_of_ble_eq_true rfl) ⟨Nat.le_of_ble_eq_true rfl, Nat.le_of_ble_eq_true rfl⟩ rfl (by decide +kernel)) rfl ⟨rfl, rfl⟩ ?_
  refine w_imul (pc := 10) hX dX8_passages_10 ?_
  refine w_icmp_ge (pc := 11) (tgt := 32) hX dX8_passages_11 (by decide) hm (fun hm => ?_) (fun hm => ?_)
  ·
    refine w_iload_n (pc := 32) hX dX8_passages_32 rfl rfl ?_
    obtain rfl := som hm
    exact w_iret (pc := 33) hX hR dX8_passages_33 ⟨rfl, rfl⟩
  ·
    refine w_iload_n (pc := 14) hX dX8_passages_14 rfl rfl ?_
    refine w_aload_n (pc := 15) hX dX8_passages_15 rfl rfl ?_
    refine gf_X8_s (pc := 16) hX dX8_passages_16 hX8 (List.mem_of_getElem? (i := 1) rfl) 0 rfl rfl ?_
    refine w_bipush (pc := 19) hX dX8_passages_19 bp_42 ?_
    refine w_iload_n (pc := 21) hX dX8_passages_21 rfl rfl ?_
    refine w_iadd (pc := 22) hX dX8_passages_22 ?_
    refine w_iald (pc := 23) hX dX8_passages_23 1 rfl hm (fun hm => ?_)
    refine w_iadd (pc := 24) hX dX8_passages_24 ?_
    refine w_istore_n (pc := 25) hX dX8_passages_25 rfl (Nat.le_of_ble_eq_true rfl) ?_
    refine w_iinc (pc := 26) hX dX8_passages_26 rfl (Nat.le_of_ble_eq_true rfl) ic_1 ?_
    refine w_goto (pc := 29) (tgt := 4) hX dX8_passages_29 (by decide) ?_
    exact w_lvs [true, true, true] (hself2 (x1.1 + (m_s ((42 : Int32) + x1.2).toNatClampNeg), x1.2 + (1 : Int32)) hm)
