/-! WALKS, printed by wip/whole/gen.py -/
theorem lX8_lightens_X8 : ∀ w ∈ wsX80, w ∈ wsX8_lightens := in_at [2, 3, 4, 5, 6, 7, 8, 9, 10, 11, 12, 13, 14, 15, 16, 17, 18, 19, 20, 21, 22, 23, 24, 25] (by decide +kernel)
set_option maxHeartbeats 4000000 in
set_option maxRecDepth 100000 in
theorem ctX8_lightens (G : gT) (F : Nat) (a_t : Nat → Nat) (m_s : nF) (m_begun : nF) (m_kept : nF) (m_isKept : Int32) (m_past : nF) (m_states : Int32) (m_text : nF) (m_length : Int32) (m_far : nF) (m_queue : nF) (m_isOn : nF) (m_steps : nF) (m_wayCells : Int32) (m_turns : Int32) (m_visits : nF) (m_wasSo : nF) (m_bestAway : Int32) (m_bestMade : Int32) (m_bestFault : Int32) (m_isHere : nF) (m_place : Int32) (m_reason : Int32) (m_wide : Int32) (m_high : Int32) (g1 : Int32) (g2 : Int32) (o : nF) (hm : mX8_lightens F m_s g1 g2 = some o) : CT G yX8_lightens wsX8_lightens rmX8_lightens [.ref (a_t 0), .int g1, .int g2] (wX8 G a_t m_s m_begun m_kept m_isKept m_past m_states m_text m_length m_far m_queue m_isOn m_steps m_wayCells m_turns m_visits m_wasSo m_bestAway m_bestMade m_bestFault m_isHere m_place m_reason m_wide m_high) (fun v w => v = none ∧ w = wX8 G a_t o m_begun m_kept m_isKept m_past m_states m_text m_length m_far m_queue m_isOn m_steps m_wayCells m_turns m_visits m_wasSo m_bestAway m_bestMade m_bestFault m_isHere m_place m_reason m_wide m_high) := by
  refine CT_of (cc := cX8_lightens) (maxL := 4) (ret := none) 1 (by decide +kernel) rfl rfl (cat_ok rfl) (fun X hX hR hN => ?_)
  have hX : Ok G X cX8_lightens RX8 wsX8_lightens 4 rmX8_lightens := hX
  have hX8 : ∀ w ∈ wsX80, w ∈ wsX8_lightens := lX8_lightens_X8
  unfold mX8_lightens at hm
  refine w_iconst (pc := 0) hX dX8_lightens_0 ic_0 ?_
  refine w_istore_n (pc := 1) hX dX8_lightens_1 rfl (Nat.le_of_ble_eq_true rfl) ?_
  refine w_jn (T := fun x1 : nF => WW G X 0 0 (wX8 G a_t x1 m_begun m_kept m_isKept m_past m_states m_text m_length m_far m_queue m_isOn m_steps m_wayCells m_turns m_visits m_wasSo m_bestAway m_bestMade m_bestFault m_isHere m_place m_reason m_wide m_high) [some (.ref (a_t 0)), some (.int g1), some (.int g2), none] 21 []) hm (fun x1 hm => ?_) (fun j2 hj2 hm => ?_)
  ·
    unfold mX8_lightens_K21 at hm
    refine w_aload_n (pc := 21) hX dX8_lightens_21 rfl rfl ?_
    refine gf_X8_s (pc := 22) hX dX8_lightens_22 hX8 (List.mem_of_getElem? (i := 1) rfl) 0 rfl rfl ?_
    refine w_iconst (pc := 25) hX dX8_lightens_25 ic_0 ?_
    refine w_iload_n (pc := 26) hX dX8_lightens_26 rfl rfl ?_
    refine w_iast (pc := 27) hX dX8_lightens_27 1 rfl hm (fun hm => ?_)
    refine w_aload_n (pc := 28) hX dX8_lightens_28 rfl rfl ?_
    refine gf_X8_s (pc := 29) hX dX8_lightens_29 hX8 (List.mem_of_getElem? (i := 1) rfl) 0 rfl rfl ?_
    refine w_iconst (pc := 32) hX dX8_lightens_32 ic_1 ?_
    refine w_iload_n (pc := 33) hX dX8_lightens_33 rfl rfl ?_
    refine w_iast (pc := 34) hX dX8_lightens_34 1 rfl hm (fun hm => ?_)
    refine w_aload_n (pc := 35) hX dX8_lightens_35 rfl rfl ?_
    refine gf_X8_s (pc := 36) hX dX8_lightens_36 hX8 (List.mem_of_getElem? (i := 1) rfl) 0 rfl rfl ?_
    refine w_iconst (pc := 39) hX dX8_lightens_39 ic_3 ?_
    refine w_iconst (pc := 40) hX dX8_lightens_40 ic_3 ?_
    refine w_iast (pc := 41) hX dX8_lightens_41 1 rfl hm (fun hm => ?_)
    refine w_aload_n (pc := 42) hX dX8_lightens_42 rfl rfl ?_
    refine gf_X8_s (pc := 43) hX dX8_lightens_43 hX8 (List.mem_of_getElem? (i := 1) rfl) 0 rfl rfl ?_
    refine w_iconst (pc := 46) hX dX8_lightens_46 ic_4 ?_
    refine w_iload_n (pc := 47) hX dX8_lightens_47 rfl rfl ?_
    refine w_iload_n (pc := 48) hX dX8_lightens_48 rfl rfl ?_
    refine w_imul (pc := 49) hX dX8_lightens_49 ?_
    refine w_iconst (pc := 50) hX dX8_lightens_50 ic_1 ?_
    refine w_isub (pc := 51) hX dX8_lightens_51 ?_
    refine w_iast (pc := 52) hX dX8_lightens_52 1 rfl hm (fun hm => ?_)
    refine w_aload_n (pc := 53) hX dX8_lightens_53 rfl rfl ?_
    refine gf_X8_s (pc := 54) hX dX8_lightens_54 hX8 (List.mem_of_getElem? (i := 1) rfl) 0 rfl rfl ?_
    refine w_iconst (pc := 57) hX dX8_lightens_57 ic_5 ?_
    refine w_iconst (pc := 58) hX dX8_lightens_58 ic_1 ?_
    refine w_iast (pc := 59) hX dX8_lightens_59 1 rfl hm (fun hm => ?_)
    obtain rfl := som hm
    exact w_vret (pc := 60) hX hR dX8_lightens_60 ⟨rfl, rfl⟩
  ·
    refine w_lvs [true, true, true, true] ?_
    refine lpr_ind (T := fun x3 : (Int32 × nF) => WW G X 0 0 (wX8 G a_t x3.2 m_begun m_kept m_isKept m_past m_states m_text m_length m_far m_queue m_isOn m_steps m_wayCells m_turns m_visits m_wasSo m_bestAway m_bestMade m_bestFault m_isHere m_place m_reason m_wide m_high) [some (.ref (a_t 0)), some (.int g1), some (.int g2), some (.int x3.1)] 2 []) (fun self4 hself4 x3 hm => ?_) F ((0 : Int32), m_s) hm
    unfold mX8_lightens_L2 at hm
    refine w_iload_n (pc := 2) hX dX8_lightens_2 rfl rfl ?_
    refine w_bipush (pc := 3) hX dX8_lightens_3 bp_114 ?_
    refine w_icmp_ge (pc := 5) (tgt := 21) hX dX8_lightens_5 (by decide) hm (fun hm => ?_) (fun hm => ?_)
    ·
      exact w_lvs [true, true, true, false] (hj2 x3.2 hm)
    ·
      refine w_aload_n (pc := 8) hX dX8_lightens_8 rfl rfl ?_
      refine gf_X8_s (pc := 9) hX dX8_lightens_9 hX8 (List.mem_of_getElem? (i := 1) rfl) 0 rfl rfl ?_
      refine w_iload_n (pc := 12) hX dX8_lightens_12 rfl rfl ?_
      refine w_iconst (pc := 13) hX dX8_lightens_13 ic_0 ?_
      refine w_iast (pc := 14) hX dX8_lightens_14 1 rfl hm (fun hm => ?_)
      refine w_iinc (pc := 15) hX dX8_lightens_15 rfl (Nat.le_of_ble_eq_true rfl) ic_1 ?_
      refine w_goto (pc := 18) (tgt := 2) hX dX8_lightens_18 (by decide) ?_
      exact w_lvs [true, true, true, true] (hself4 (x3.1 + (1 : Int32), (upd x3.2 x3.1.toNatClampNeg (0 : Int32))) hm)

set_option maxHeartbeats 4000000 in
set_option maxRecDepth 100000 in
theorem ctX8_in (G : gT) (g0 : Int32) (g1 : Int32) (g2 : Int32) (o : Int32) (hm : mX8_in g0 g1 g2 = some o) : CT G yX8_in wsX8_in rmX8_in [.int g0, .int g1, .int g2] ([]) (fun v w => v = some (.int o) ∧ w = []) := by
  refine CT_of (cc := cX8_in) (maxL := 3) (ret := (some .boolean)) 0 (by decide +kernel) rfl rfl (cat_ok rfl) (fun X hX hR hN => ?_)
  have hX : Ok G X cX8_in RX8 wsX8_in 3 rmX8_in := hX
  unfold mX8_in at hm
  refine w_iload_n (pc := 0) hX dX8_in_0 rfl rfl ?_
  refine w_iload_n (pc := 1) hX dX8_in_1 rfl rfl ?_
  refine w_jn (T := fun x1 : Int32 => WW G X 0 0 ([]) [none, none, none] 15 [.int x1]) hm (fun x1 hm => ?_) (fun j2 hj2 hm => ?_)
  ·
    refine w_zret (pc := 15) hX hR dX8_in_15 hm (fun hm => ?_)
    obtain rfl := som hm
    exact ⟨rfl, rfl⟩
  ·
    refine w_jn (T := fun x3 : Unit => WW G X 0 0 ([]) [none, none, none] 14 []) hm (fun x3 hm => ?_) (fun j4 hj4 hm => ?_)
    ·
      refine w_iconst (pc := 14) hX dX8_in_14 ic_0 ?_
      exact w_lvs [false, false, false] (hj2 (0 : Int32) hm)
    ·
      refine w_icmp_lt (pc := 2) (tgt := 14) hX dX8_in_2 (by decide) hm (fun hm => ?_) (fun hm => ?_)
      ·
        exact w_lvs [false, false, false] (hj4 () hm)
      ·
        refine w_iload_n (pc := 5) hX dX8_in_5 rfl rfl ?_
        refine w_iload_n (pc := 6) hX dX8_in_6 rfl rfl ?_
        refine w_icmp_gt (pc := 7) (tgt := 14) hX dX8_in_7 (by decide) hm (fun hm => ?_) (fun hm => ?_)
        ·
          exact w_lvs [false, false, false] (hj4 () hm)
        ·
          refine w_iconst (pc := 10) hX dX8_in_10 ic_1 ?_
          refine w_goto (pc := 11) (tgt := 15) hX dX8_in_11 (by decide) ?_
          exact w_lvs [false, false, false] (hj2 (1 : Int32) hm)

theorem lX8_begins_X8 : ∀ w ∈ wsX80, w ∈ wsX8_begins := in_at [3, 4, 5, 6, 7, 8, 9, 10, 11, 12, 13, 14, 15, 16, 17, 18, 19, 20, 21, 22, 23, 24, 25, 26] (by decide +kernel)
set_option maxHeartbeats 4000000 in
set_option maxRecDepth 100000 in
theorem ctX8_begins (G : gT) (F : Nat) (a_t : Nat → Nat) (m_s : nF) (m_begun : nF) (m_kept : nF) (m_isKept : Int32) (m_past : nF) (m_states : Int32) (m_text : nF) (m_length : Int32) (m_far : nF) (m_queue : nF) (m_isOn : nF) (m_steps : nF) (m_wayCells : Int32) (m_turns : Int32) (m_visits : nF) (m_wasSo : nF) (m_bestAway : Int32) (m_bestMade : Int32) (m_bestFault : Int32) (m_isHere : nF) (m_place : Int32) (m_reason : Int32) (m_wide : Int32) (m_high : Int32) (o : nF) (hm : mX8_begins F m_s m_begun = some o) : CT G yX8_begins wsX8_begins rmX8_begins [.ref (a_t 0)] (wX8 G a_t m_s m_begun m_kept m_isKept m_past m_states m_text m_length m_far m_queue m_isOn m_steps m_wayCells m_turns m_visits m_wasSo m_bestAway m_bestMade m_bestFault m_isHere m_place m_reason m_wide m_high) (fun v w => v = none ∧ w = wX8 G a_t m_s o m_kept m_isKept m_past m_states m_text m_length m_far m_queue m_isOn m_steps m_wayCells m_turns m_visits m_wasSo m_bestAway m_bestMade m_bestFault m_isHere m_place m_reason m_wide m_high) := by
  refine CT_of (cc := cX8_begins) (maxL := 2) (ret := none) 1 (by decide +kernel) rfl rfl (cat_ok rfl) (fun X hX hR hN => ?_)
  have hX : Ok G X cX8_begins RX8 wsX8_begins 2 rmX8_begins := hX
  have hX8 : ∀ w ∈ wsX80, w ∈ wsX8_begins := lX8_begins_X8
  unfold mX8_begins at hm
  refine w_iconst (pc := 0) hX dX8_begins_0 ic_0 ?_
  refine w_istore_n (pc := 1) hX dX8_begins_1 rfl (Nat.le_of_ble_eq_true rfl) ?_
  refine w_lvs [true, true] ?_
  refine lpr_ind (T := fun x1 : (Int32 × nF) => WW G X 0 0 (wX8 G a_t m_s x1.2 m_kept m_isKept m_past m_states m_text m_length m_far m_queue m_isOn m_steps m_wayCells m_turns m_visits m_wasSo m_bestAway m_bestMade m_bestFault m_isHere m_place m_reason m_wide m_high) [some (.ref (a_t 0)), some (.int x1.1)] 2 []) (fun self2 hself2 x1 hm => ?_) F ((0 : Int32), m_begun) hm
  unfold mX8_begins_L2 at hm
  refine w_iload_n (pc := 2) hX dX8_begins_2 rfl rfl ?_
  refine w_bipush (pc := 3) hX dX8_begins_3 bp_114 ?_
  refine w_icmp_ge (pc := 5) (tgt := 26) hX dX8_begins_5 (by decide) hm (fun hm => ?_) (fun hm => ?_)
  ·
    obtain rfl := som hm
    exact w_vret (pc := 26) hX hR dX8_begins_26 ⟨rfl, rfl⟩
  ·
    refine w_aload_n (pc := 8) hX dX8_begins_8 rfl rfl ?_
    refine gf_X8_begun (pc := 9) hX dX8_begins_9 hX8 (List.mem_of_getElem? (i := 1) rfl) 0 rfl rfl ?_
    refine w_iload_n (pc := 12) hX dX8_begins_12 rfl rfl ?_
    refine w_aload_n (pc := 13) hX dX8_begins_13 rfl rfl ?_
    refine gf_X8_s (pc := 14) hX dX8_begins_14 hX8 (List.mem_of_getElem? (i := 2) rfl) 0 rfl rfl ?_
    refine w_iload_n (pc := 17) hX dX8_begins_17 rfl rfl ?_
    refine w_iald (pc := 18) hX dX8_begins_18 1 rfl hm (fun hm => ?_)
    refine w_iast (pc := 19) hX dX8_begins_19 2 rfl hm (fun hm => ?_)
    refine w_iinc (pc := 20) hX dX8_begins_20 rfl (Nat.le_of_ble_eq_true rfl) ic_1 ?_
    refine w_goto (pc := 23) (tgt := 2) hX dX8_begins_23 (by decide) ?_
    exact w_lvs [true, true] (hself2 (x1.1 + (1 : Int32), (upd x1.2 x1.1.toNatClampNeg (m_s x1.1.toNatClampNeg))) hm)

theorem lX8_acted_X8 : ∀ w ∈ wsX80, w ∈ wsX8_acted := in_at [5, 6, 7, 8, 9, 10, 11, 12, 13, 14, 15, 16, 17, 18, 19, 20, 21, 22, 23, 24, 25, 26, 27, 28] (by decide +kernel)
set_option maxHeartbeats 4000000 in
set_option maxRecDepth 100000 in
theorem ctX8_acted (G : gT) (F : Nat) (a_t : Nat → Nat) (m_s : nF) (m_begun : nF) (m_kept : nF) (m_isKept : Int32) (m_past : nF) (m_states : Int32) (m_text : nF) (m_length : Int32) (m_far : nF) (m_queue : nF) (m_isOn : nF) (m_steps : nF) (m_wayCells : Int32) (m_turns : Int32) (m_visits : nF) (m_wasSo : nF) (m_bestAway : Int32) (m_bestMade : Int32) (m_bestFault : Int32) (m_isHere : nF) (m_place : Int32) (m_reason : Int32) (m_wide : Int32) (m_high : Int32) (g1 : Int32) (o : (Int32 × nF × nF × Int32)) (hm : mX8_acted F m_s m_begun m_past m_states g1 = some o) : CT G yX8_acted wsX8_acted rmX8_acted [.ref (a_t 0), .int g1] (wX8 G a_t m_s m_begun m_kept m_isKept m_past m_states m_text m_length m_far m_queue m_isOn m_steps m_wayCells m_turns m_visits m_wasSo m_bestAway m_bestMade m_bestFault m_isHere m_place m_reason m_wide m_high) (fun v w => v = some (.int o.1) ∧ w = wX8 G a_t o.2.1 m_begun m_kept m_isKept o.2.2.1 o.2.2.2 m_text m_length m_far m_queue m_isOn m_steps m_wayCells m_turns m_visits m_wasSo m_bestAway m_bestMade m_bestFault m_isHere m_place m_reason m_wide m_high) := by
  refine CT_of (cc := cX8_acted) (maxL := 3) (ret := (some .int)) 1 (by decide +kernel) rfl rfl (cat_ok rfl) (fun X hX hR hN => ?_)
  have hX : Ok G X cX8_acted RX8 wsX8_acted 3 rmX8_acted := hX
  have hX8 : ∀ w ∈ wsX80, w ∈ wsX8_acted := lX8_acted_X8
  unfold mX8_acted at hm
  refine w_iload_n (pc := 0) hX dX8_acted_0 rfl rfl ?_
  refine w_if_ge (pc := 1) (tgt := 32) hX dX8_acted_1 (by decide) hm (fun hm => ?_) (fun hm => ?_)
  ·
    refine w_aload_n (pc := 32) hX dX8_acted_32 rfl rfl ?_
    refine gf_X8_states (pc := 33) hX dX8_acted_33 hX8 (List.mem_of_getElem? (i := 3) rfl) 0 rfl rfl ?_
    refine w_iconst (pc := 36) hX dX8_acted_36 ic_4 ?_
    refine w_jn (T := fun x1 : (nF × Int32) => WW G X 0 0 (wX8 G a_t m_s m_begun m_kept m_isKept x1.1 x1.2 m_text m_length m_far m_queue m_isOn m_steps m_wayCells m_turns m_visits m_wasSo m_bestAway m_bestMade m_bestFault m_isHere m_place m_reason m_wide m_high) [some (.ref (a_t 0)), some (.int g1), none] 80 []) hm (fun x1 hm => ?_) (fun j2 hj2 hm => ?_)
    ·
      refine w_iconst (pc := 80) hX dX8_acted_80 ic_0 ?_
      refine w_istore_n (pc := 81) hX dX8_acted_81 rfl (Nat.le_of_ble_eq_true rfl) ?_
      refine w_lvs [true, true, true] ?_
      refine lpr_ind (T := fun x3 : (Int32 × nF) => WW G X 0 0 (wX8 G a_t m_s m_begun m_kept m_isKept x3.2 x1.2 m_text m_length m_far m_queue m_isOn m_steps m_wayCells m_turns m_visits m_wasSo m_bestAway m_bestMade m_bestFault m_isHere m_place m_reason m_wide m_high) [some (.ref (a_t 0)), some (.int g1), some (.int x3.1)] 82 []) (fun self4 hself4 x3 hm => ?_) F ((0 : Int32), x1.1) hm
      unfold mX8_acted_L82 at hm
      refine w_iload_n (pc := 82) hX dX8_acted_82 rfl rfl ?_
      refine w_bipush (pc := 83) hX dX8_acted_83 bp_114 ?_
      refine w_icmp_ge (pc := 85) (tgt := 114) hX dX8_acted_85 (by decide) hm (fun hm => ?_) (fun hm => ?_)
      ·
        refine w_aload_n (pc := 114) hX dX8_acted_114 rfl rfl ?_
        refine w_dup (pc := 115) hX dX8_acted_115 rfl ?_
        refine gf_X8_states (pc := 116) hX dX8_acted_116 hX8 (List.mem_of_getElem? (i := 3) rfl) 0 rfl rfl ?_
        refine w_iconst (pc := 119) hX dX8_acted_119 ic_1 ?_
        refine w_iadd (pc := 120) hX dX8_acted_120 ?_
        refine pf_X8_states (pc := 121) hX dX8_acted_121 hX8 (List.mem_of_getElem? (i := 3) rfl) 0 rfl rfl ?_
        refine w_iload_n (pc := 124) hX dX8_acted_124 rfl rfl ?_
        obtain rfl := som hm
        exact w_iret (pc := 125) hX hR dX8_acted_125 ⟨rfl, rfl⟩
      ·
        refine w_aload_n (pc := 88) hX dX8_acted_88 rfl rfl ?_
        refine gf_X8_past (pc := 89) hX dX8_acted_89 hX8 (List.mem_of_getElem? (i := 4) rfl) 0 rfl rfl ?_
        refine w_bipush (pc := 92) hX dX8_acted_92 bp_114 ?_
        refine w_aload_n (pc := 94) hX dX8_acted_94 rfl rfl ?_
        refine gf_X8_states (pc := 95) hX dX8_acted_95 hX8 (List.mem_of_getElem? (i := 3) rfl) 0 rfl rfl ?_
        refine w_imul (pc := 98) hX dX8_acted_98 ?_
        refine w_iload_n (pc := 99) hX dX8_acted_99 rfl rfl ?_
        refine w_iadd (pc := 100) hX dX8_acted_100 ?_
        refine w_aload_n (pc := 101) hX dX8_acted_101 rfl rfl ?_
        refine gf_X8_begun (pc := 102) hX dX8_acted_102 hX8 (List.mem_of_getElem? (i := 2) rfl) 0 rfl rfl ?_
        refine w_iload_n (pc := 105) hX dX8_acted_105 rfl rfl ?_
        refine w_iald (pc := 106) hX dX8_acted_106 2 rfl hm (fun hm => ?_)
        refine w_iast (pc := 107) hX dX8_acted_107 4 rfl hm (fun hm => ?_)
        refine w_iinc (pc := 108) hX dX8_acted_108 rfl (Nat.le_of_ble_eq_true rfl) ic_1 ?_
        refine w_goto (pc := 111) (tgt := 82) hX dX8_acted_111 (by decide) ?_
        exact w_lvs [true, true, true] (hself4 (x3.1 + (1 : Int32), (upd x3.2 (((114 : Int32) * x1.2) + x3.1).toNatClampNeg (m_begun x3.1.toNatClampNeg))) hm)
    ·
      refine w_icmp_ne (pc := 37) (tgt := 80) hX dX8_acted_37 (by decide) hm (fun hm => ?_) (fun hm => ?_)
      ·
        exact w_lvs [true, true, false] (hj2 (m_past, m_states) hm)
      ·
        refine w_iconst (pc := 40) hX dX8_acted_40 ic_0 ?_
        refine w_istore_n (pc := 41) hX dX8_acted_41 rfl (Nat.le_of_ble_eq_true rfl) ?_
        refine w_jn (T := fun x5 : nF => WW G X 0 0 (wX8 G a_t m_s m_begun m_kept m_isKept x5 m_states m_text m_length m_far m_queue m_isOn m_steps m_wayCells m_turns m_visits m_wasSo m_bestAway m_bestMade m_bestFault m_isHere m_place m_reason m_wide m_high) [some (.ref (a_t 0)), some (.int g1), none] 70 []) hm (fun x5 hm => ?_) (fun j6 hj6 hm => ?_)
        ·
          unfold mX8_acted_K70 at hm
          refine w_aload_n (pc := 70) hX dX8_acted_70 rfl rfl ?_
          refine w_dup (pc := 71) hX dX8_acted_71 rfl ?_
          refine gf_X8_states (pc := 72) hX dX8_acted_72 hX8 (List.mem_of_getElem? (i := 3) rfl) 0 rfl rfl ?_
          refine w_iconst (pc := 75) hX dX8_acted_75 ic_1 ?_
          refine w_isub (pc := 76) hX dX8_acted_76 ?_
          refine pf_X8_states (pc := 77) hX dX8_acted_77 hX8 (List.mem_of_getElem? (i := 3) rfl) 0 rfl rfl ?_
          exact w_lvs [true, true, false] (hj2 (x5, m_states - (1 : Int32)) hm)
        ·
          refine w_lvs [true, true, true] ?_
          refine lpr_ind (T := fun x7 : (Int32 × nF) => WW G X 0 0 (wX8 G a_t m_s m_begun m_kept m_isKept x7.2 m_states m_text m_length m_far m_queue m_isOn m_steps m_wayCells m_turns m_visits m_wasSo m_bestAway m_bestMade m_bestFault m_isHere m_place m_reason m_wide m_high) [some (.ref (a_t 0)), some (.int g1), some (.int x7.1)] 42 []) (fun self8 hself8 x7 hm => ?_) F ((0 : Int32), m_past) hm
          unfold mX8_acted_L42 at hm
          refine w_iload_n (pc := 42) hX dX8_acted_42 rfl rfl ?_
          refine w_sipush (pc := 43) hX dX8_acted_43 sp_342 ?_
          refine w_icmp_ge (pc := 46) (tgt := 70) hX dX8_acted_46 (by decide) hm (fun hm => ?_) (fun hm => ?_)
          ·
            exact w_lvs [true, true, false] (hj6 x7.2 hm)
          ·
            refine w_aload_n (pc := 49) hX dX8_acted_49 rfl rfl ?_
            refine gf_X8_past (pc := 50) hX dX8_acted_50 hX8 (List.mem_of_getElem? (i := 4) rfl) 0 rfl rfl ?_
            refine w_iload_n (pc := 53) hX dX8_acted_53 rfl rfl ?_
            refine w_aload_n (pc := 54) hX dX8_acted_54 rfl rfl ?_
            refine gf_X8_past (pc := 55) hX dX8_acted_55 hX8 (List.mem_of_getElem? (i := 4) rfl) 0 rfl rfl ?_
            refine w_iload_n (pc := 58) hX dX8_acted_58 rfl rfl ?_
            refine w_bipush (pc := 59) hX dX8_acted_59 bp_114 ?_
            refine w_iadd (pc := 61) hX dX8_acted_61 ?_
            refine w_iald (pc := 62) hX dX8_acted_62 4 rfl hm (fun hm => ?_)
            refine w_iast (pc := 63) hX dX8_acted_63 4 rfl hm (fun hm => ?_)
            refine w_iinc (pc := 64) hX dX8_acted_64 rfl (Nat.le_of_ble_eq_true rfl) ic_1 ?_
            refine w_goto (pc := 67) (tgt := 42) hX dX8_acted_67 (by decide) ?_
            exact w_lvs [true, true, true] (hself8 (x7.1 + (1 : Int32), (upd x7.2 x7.1.toNatClampNeg (x7.2 (x7.1 + (114 : Int32)).toNatClampNeg))) hm)
  ·
    refine w_iconst (pc := 4) hX dX8_acted_4 ic_0 ?_
    refine w_istore_n (pc := 5) hX dX8_acted_5 rfl (Nat.le_of_ble_eq_true rfl) ?_
    refine w_lvs [true, true, true] ?_
    refine lpr_ind (T := fun x9 : (Int32 × nF) => WW G X 0 0 (wX8 G a_t x9.2 m_begun m_kept m_isKept m_past m_states m_text m_length m_far m_queue m_isOn m_steps m_wayCells m_turns m_visits m_wasSo m_bestAway m_bestMade m_bestFault m_isHere m_place m_reason m_wide m_high) [some (.ref (a_t 0)), some (.int g1), some (.int x9.1)] 6 []) (fun self10 hself10 x9 hm => ?_) F ((0 : Int32), m_s) hm
    unfold mX8_acted_L6 at hm
    refine w_iload_n (pc := 6) hX dX8_acted_6 rfl rfl ?_
    refine w_bipush (pc := 7) hX dX8_acted_7 bp_114 ?_
    refine w_icmp_ge (pc := 9) (tgt := 30) hX dX8_acted_9 (by decide) hm (fun hm => ?_) (fun hm => ?_)
    ·
      refine w_iload_n (pc := 30) hX dX8_acted_30 rfl rfl ?_
      obtain rfl := som hm
      exact w_iret (pc := 31) hX hR dX8_acted_31 ⟨rfl, rfl⟩
    ·
      refine w_aload_n (pc := 12) hX dX8_acted_12 rfl rfl ?_
      refine gf_X8_s (pc := 13) hX dX8_acted_13 hX8 (List.mem_of_getElem? (i := 1) rfl) 0 rfl rfl ?_
      refine w_iload_n (pc := 16) hX dX8_acted_16 rfl rfl ?_
      refine w_aload_n (pc := 17) hX dX8_acted_17 rfl rfl ?_
      refine gf_X8_begun (pc := 18) hX dX8_acted_18 hX8 (List.mem_of_getElem? (i := 2) rfl) 0 rfl rfl ?_
      refine w_iload_n (pc := 21) hX dX8_acted_21 rfl rfl ?_
      refine w_iald (pc := 22) hX dX8_acted_22 2 rfl hm (fun hm => ?_)
      refine w_iast (pc := 23) hX dX8_acted_23 1 rfl hm (fun hm => ?_)
      refine w_iinc (pc := 24) hX dX8_acted_24 rfl (Nat.le_of_ble_eq_true rfl) ic_1 ?_
      refine w_goto (pc := 27) (tgt := 6) hX dX8_acted_27 (by decide) ?_
      exact w_lvs [true, true, true] (hself10 (x9.1 + (1 : Int32), (upd x9.2 x9.1.toNatClampNeg (m_begun x9.1.toNatClampNeg))) hm)

theorem lX8_cells_X8 : ∀ w ∈ wsX80, w ∈ wsX8_cells := in_at [2, 3, 4, 5, 6, 7, 8, 9, 10, 11, 12, 13, 14, 15, 16, 17, 18, 19, 20, 21, 22, 23, 24, 25] (by decide +kernel)
set_option maxHeartbeats 4000000 in
set_option maxRecDepth 100000 in
theorem ctX8_cells (G : gT) (a_t : Nat → Nat) (m_s : nF) (m_begun : nF) (m_kept : nF) (m_isKept : Int32) (m_past : nF) (m_states : Int32) (m_text : nF) (m_length : Int32) (m_far : nF) (m_queue : nF) (m_isOn : nF) (m_steps : nF) (m_wayCells : Int32) (m_turns : Int32) (m_visits : nF) (m_wasSo : nF) (m_bestAway : Int32) (m_bestMade : Int32) (m_bestFault : Int32) (m_isHere : nF) (m_place : Int32) (m_reason : Int32) (m_wide : Int32) (m_high : Int32) (o : Int32) (hm : mX8_cells m_s = some o) : CT G yX8_cells wsX8_cells rmX8_cells [.ref (a_t 0)] (wX8 G a_t m_s m_begun m_kept m_isKept m_past m_states m_text m_length m_far m_queue m_isOn m_steps m_wayCells m_turns m_visits m_wasSo m_bestAway m_bestMade m_bestFault m_isHere m_place m_reason m_wide m_high) (fun v w => v = some (.int o) ∧ w = wX8 G a_t m_s m_begun m_kept m_isKept m_past m_states m_text m_length m_far m_queue m_isOn m_steps m_wayCells m_turns m_visits m_wasSo m_bestAway m_bestMade m_bestFault m_isHere m_place m_reason m_wide m_high) := by
  refine CT_of (cc := cX8_cells) (maxL := 1) (ret := (some .int)) 0 (by decide +kernel) rfl rfl (cat_ok rfl) (fun X hX hR hN => ?_)
  have hX : Ok G X cX8_cells RX8 wsX8_cells 1 rmX8_cells := hX
  have hX8 : ∀ w ∈ wsX80, w ∈ wsX8_cells := lX8_cells_X8
  unfold mX8_cells at hm
  refine w_aload_n (pc := 0) hX dX8_cells_0 rfl rfl ?_
  refine gf_X8_s (pc := 1) hX dX8_cells_1 hX8 (List.mem_of_getElem? (i := 1) rfl) 0 rfl rfl ?_
  refine w_iconst (pc := 4) hX dX8_cells_4 ic_0 ?_
  refine w_iald (pc := 5) hX dX8_cells_5 1 rfl hm (fun hm => ?_)
  refine w_aload_n (pc := 6) hX dX8_cells_6 rfl rfl ?_
  refine gf_X8_s (pc := 7) hX dX8_cells_7 hX8 (List.mem_of_getElem? (i := 1) rfl) 0 rfl rfl ?_
  refine w_iconst (pc := 10) hX dX8_cells_10 ic_1 ?_
  refine w_iald (pc := 11) hX dX8_cells_11 1 rfl hm (fun hm => ?_)
  refine w_imul (pc := 12) hX dX8_cells_12 ?_
  obtain rfl := som hm
  exact w_iret (pc := 13) hX hR dX8_cells_13 ⟨rfl, rfl⟩

set_option maxHeartbeats 4000000 in
set_option maxRecDepth 100000 in
theorem ctX8_isCell (G : gT) (a_t : Nat → Nat) (m_s : nF) (m_begun : nF) (m_kept : nF) (m_isKept : Int32) (m_past : nF) (m_states : Int32) (m_text : nF) (m_length : Int32) (m_far : nF) (m_queue : nF) (m_isOn : nF) (m_steps : nF) (m_wayCells : Int32) (m_turns : Int32) (m_visits : nF) (m_wasSo : nF) (m_bestAway : Int32) (m_bestMade : Int32) (m_bestFault : Int32) (m_isHere : nF) (m_place : Int32) (m_reason : Int32) (m_wide : Int32) (m_high : Int32) (g1 : Int32) (o : Int32) (hm : mX8_isCell m_s g1 = some o) : CT G yX8_isCell wsX8_isCell rmX8_isCell [.ref (a_t 0), .int g1] (wX8 G a_t m_s m_begun m_kept m_isKept m_past m_states m_text m_length m_far m_queue m_isOn m_steps m_wayCells m_turns m_visits m_wasSo m_bestAway m_bestMade m_bestFault m_isHere m_place m_reason m_wide m_high) (fun v w => v = some (.int o) ∧ w = wX8 G a_t m_s m_begun m_kept m_isKept m_past m_states m_text m_length m_far m_queue m_isOn m_steps m_wayCells m_turns m_visits m_wasSo m_bestAway m_bestMade m_bestFault m_isHere m_place m_reason m_wide m_high) := by
  refine CT_of (cc := cX8_isCell) (maxL := 2) (ret := (some .boolean)) 0 (by decide +kernel) rfl rfl (cat_ok rfl) (fun X hX hR hN => ?_)
  have hX : Ok G X cX8_isCell RX8 wsX8_isCell 2 rmX8_isCell := hX
  unfold mX8_isCell at hm
  refine w_iload_n (pc := 0) hX dX8_isCell_0 rfl rfl ?_
  refine w_iconst (pc := 1) hX dX8_isCell_1 ic_0 ?_
  refine w_aload_n (pc := 2) hX dX8_isCell_2 rfl rfl ?_
  obtain ⟨r1, hr1, hm⟩ := bnd hm
  refine w_callpi (pc := 3) hX [0, 1, 2, 3, 4, 5, 6, 7, 8, 9, 10, 11, 12] (runV (rest := [.int (0 : Int32), .int g1]) hX [0, 1, 2, 3, 4, 5, 6, 7, 8, 9, 10, 11, 12] (ctX8_cells G a_t m_s m_begun m_kept m_isKept m_past m_states m_text m_length m_far m_queue m_isOn m_steps m_wayCells m_turns m_visits m_wasSo m_bestAway m_bestMade m_bestFault m_isHere m_place m_reason m_wide m_high r1 hr1) dX8_isCell_3 0 gX8_isCell_X8_cells rfl hyX8_cells ⟨Nat.le_of_ble_eq_true rfl, Nat.le_of_ble_eq_true rfl⟩ 0 rfl rfl rfl rfl (Nat.le_of_ble_eq_true rfl) ⟨Nat.le_of_ble_eq_true rfl, Nat.le_of_ble_eq_true rfl⟩ rfl rfl) rfl ⟨rfl, rfl⟩ ?_
  refine w_iconst (pc := 6) hX dX8_isCell_6 ic_1 ?_
  refine w_isub (pc := 7) hX dX8_isCell_7 ?_
  obtain ⟨r2, hr2, hm⟩ := bnd hm
  refine w_callpi (pc := 8) hX [] (runS (rest := []) hX [] (ctX8_in G g1 (0 : Int32) (r1 - (1 : Int32)) r2 hr2) dX8_isCell_8 3 gX8_isCell_X8_in rfl hyX8_in.2 ⟨Nat.le_of_ble_eq_true rfl, Nat.le_of_ble_eq_true rfl⟩ rfl rfl (Nat.le_of_ble_eq_true rfl) ⟨Nat.le_of_ble_eq_true rfl, Nat.le_of_ble_eq_true rfl⟩ rfl rfl) rfl ⟨rfl, rfl⟩ ?_
  refine w_zret (pc := 11) hX hR dX8_isCell_11 hm (fun hm => ?_)
  obtain rfl := som hm
  exact ⟨rfl, rfl⟩

theorem lX8_besides_X8 : ∀ w ∈ wsX80, w ∈ wsX8_besides := in_at [2, 3, 4, 5, 6, 7, 8, 9, 10, 11, 12, 13, 14, 15, 16, 17, 18, 19, 20, 21, 22, 23, 24, 25] (by decide +kernel)
set_option maxHeartbeats 4000000 in
set_option maxRecDepth 100000 in
theorem ctX8_besides (G : gT) (a_t : Nat → Nat) (m_s : nF) (m_begun : nF) (m_kept : nF) (m_isKept : Int32) (m_past : nF) (m_states : Int32) (m_text : nF) (m_length : Int32) (m_far : nF) (m_queue : nF) (m_isOn : nF) (m_steps : nF) (m_wayCells : Int32) (m_turns : Int32) (m_visits : nF) (m_wasSo : nF) (m_bestAway : Int32) (m_bestMade : Int32) (m_bestFault : Int32) (m_isHere : nF) (m_place : Int32) (m_reason : Int32) (m_wide : Int32) (m_high : Int32) (g1 : Int32) (g2 : Int32) (o : Int32) (hm : mX8_besides m_s g1 g2 = some o) : CT G yX8_besides wsX8_besides rmX8_besides [.ref (a_t 0), .int g1, .int g2] (wX8 G a_t m_s m_begun m_kept m_isKept m_past m_states m_text m_length m_far m_queue m_isOn m_steps m_wayCells m_turns m_visits m_wasSo m_bestAway m_bestMade m_bestFault m_isHere m_place m_reason m_wide m_high) (fun v w => v = some (.int o) ∧ w = wX8 G a_t m_s m_begun m_kept m_isKept m_past m_states m_text m_length m_far m_queue m_isOn m_steps m_wayCells m_turns m_visits m_wasSo m_bestAway m_bestMade m_bestFault m_isHere m_place m_reason m_wide m_high) := by
  refine CT_of (cc := cX8_besides) (maxL := 5) (ret := (some .int)) 2 (by decide +kernel) rfl rfl (cat_ok rfl) (fun X hX hR hN => ?_)
  have hX : Ok G X cX8_besides RX8 wsX8_besides 5 rmX8_besides := hX
  have hX8 : ∀ w ∈ wsX80, w ∈ wsX8_besides := lX8_besides_X8
  unfold mX8_besides at hm
  refine w_iload_n (pc := 0) hX dX8_besides_0 rfl rfl ?_
  refine w_aload_n (pc := 1) hX dX8_besides_1 rfl rfl ?_
  refine gf_X8_s (pc := 2) hX dX8_besides_2 hX8 (List.mem_of_getElem? (i := 1) rfl) 0 rfl rfl ?_
  refine w_iconst (pc := 5) hX dX8_besides_5 ic_0 ?_
  refine w_iald (pc := 6) hX dX8_besides_6 1 rfl hm (fun hm => ?_)
  refine w_irem (pc := 7) hX dX8_besides_7 hm (fun hm => ?_)
  refine w_istore_n (pc := 8) hX dX8_besides_8 rfl (Nat.le_of_ble_eq_true rfl) ?_
  refine w_iload_n (pc := 9) hX dX8_besides_9 rfl rfl ?_
  refine w_aload_n (pc := 10) hX dX8_besides_10 rfl rfl ?_
  refine gf_X8_s (pc := 11) hX dX8_besides_11 hX8 (List.mem_of_getElem? (i := 1) rfl) 0 rfl rfl ?_
  refine w_iconst (pc := 14) hX dX8_besides_14 ic_0 ?_
  refine w_iald (pc := 15) hX dX8_besides_15 1 rfl hm (fun hm => ?_)
  refine w_idiv (pc := 16) hX dX8_besides_16 hm (fun hm => ?_)
  refine w_istore (pc := 17) hX dX8_besides_17 (Nat.le_of_ble_eq_true rfl) ?_
  refine w_iload_n (pc := 19) hX dX8_besides_19 rfl rfl ?_
  rcases Decidable.em (g2 = (0 : Int32)) with hc1 | hc1
  ·
    replace hm := ite_t hm hc1
    refine w_tabIn (pc := 20) (tgt := 48) hX dX8_besides_20 0 (by rw [hc1]; decide) (by decide) (by decide) rfl (by decide) ?_
    refine w_iload (pc := 48) hX dX8_besides_48 rfl ?_
    refine w_jn (T := fun x2 : Int32 => WW G X 0 0 (wX8 G a_t m_s m_begun m_kept m_isKept m_past m_states m_text m_length m_far m_queue m_isOn m_steps m_wayCells m_turns m_visits m_wasSo m_bestAway m_bestMade m_bestFault m_isHere m_place m_reason m_wide m_high) [none, none, none, none, none] 65 [.int x2]) hm (fun x2 hm => ?_) (fun j3 hj3 hm => ?_)
    ·
      obtain rfl := som hm
      exact w_iret (pc := 65) hX hR dX8_besides_65 ⟨rfl, rfl⟩
    ·
      refine w_if_le (pc := 50) (tgt := 64) hX dX8_besides_50 (by decide) hm (fun hm => ?_) (fun hm => ?_)
      ·
        refine w_iconst (pc := 64) hX dX8_besides_64 ic_m1 ?_
        exact w_lvs [false, false, false, false, false] (hj3 (-1 : Int32) hm)
      ·
        refine w_iload_n (pc := 53) hX dX8_besides_53 rfl rfl ?_
        refine w_aload_n (pc := 54) hX dX8_besides_54 rfl rfl ?_
        refine gf_X8_s (pc := 55) hX dX8_besides_55 hX8 (List.mem_of_getElem? (i := 1) rfl) 0 rfl rfl ?_
        refine w_iconst (pc := 58) hX dX8_besides_58 ic_0 ?_
        refine w_iald (pc := 59) hX dX8_besides_59 1 rfl hm (fun hm => ?_)
        refine w_isub (pc := 60) hX dX8_besides_60 ?_
        refine w_goto (pc := 61) (tgt := 65) hX dX8_besides_61 (by decide) ?_
        exact w_lvs [false, false, false, false, false] (hj3 (g1 - (m_s (0 : Int32).toNatClampNeg)) hm)
  ·
    replace hm := ite_f hm hc1
    rcases Decidable.em (g2 = (1 : Int32)) with hc4 | hc4
    ·
      replace hm := ite_t hm hc4
      refine w_tabIn (pc := 20) (tgt := 66) hX dX8_besides_20 1 (by rw [hc4]; decide) (by decide) (by decide) rfl (by decide) ?_
      refine w_iload_n (pc := 66) hX dX8_besides_66 rfl rfl ?_
      refine w_iconst (pc := 67) hX dX8_besides_67 ic_1 ?_
      refine w_iadd (pc := 68) hX dX8_besides_68 ?_
      refine w_aload_n (pc := 69) hX dX8_besides_69 rfl rfl ?_
      refine gf_X8_s (pc := 70) hX dX8_besides_70 hX8 (List.mem_of_getElem? (i := 1) rfl) 0 rfl rfl ?_
      refine w_iconst (pc := 73) hX dX8_besides_73 ic_0 ?_
      refine w_iald (pc := 74) hX dX8_besides_74 1 rfl hm (fun hm => ?_)
      refine w_jn (T := fun x5 : Int32 => WW G X 0 0 (wX8 G a_t m_s m_begun m_kept m_isKept m_past m_states m_text m_length m_far m_queue m_isOn m_steps m_wayCells m_turns m_visits m_wasSo m_bestAway m_bestMade m_bestFault m_isHere m_place m_reason m_wide m_high) [none, none, none, none, none] 85 [.int x5]) hm (fun x5 hm => ?_) (fun j6 hj6 hm => ?_)
      ·
        obtain rfl := som hm
        exact w_iret (pc := 85) hX hR dX8_besides_85 ⟨rfl, rfl⟩
      ·
        refine w_icmp_ge (pc := 75) (tgt := 84) hX dX8_besides_75 (by decide) hm (fun hm => ?_) (fun hm => ?_)
        ·
          refine w_iconst (pc := 84) hX dX8_besides_84 ic_m1 ?_
          exact w_lvs [false, false, false, false, false] (hj6 (-1 : Int32) hm)
        ·
          refine w_iload_n (pc := 78) hX dX8_besides_78 rfl rfl ?_
          refine w_iconst (pc := 79) hX dX8_besides_79 ic_1 ?_
          refine w_iadd (pc := 80) hX dX8_besides_80 ?_
          refine w_goto (pc := 81) (tgt := 85) hX dX8_besides_81 (by decide) ?_
          exact w_lvs [false, false, false, false, false] (hj6 (g1 + (1 : Int32)) hm)
    ·
      replace hm := ite_f hm hc4
      rcases Decidable.em (g2 = (2 : Int32)) with hc7 | hc7
      ·
        replace hm := ite_t hm hc7
        refine w_tabIn (pc := 20) (tgt := 86) hX dX8_besides_20 2 (by rw [hc7]; decide) (by decide) (by decide) rfl (by decide) ?_
        refine w_iload (pc := 86) hX dX8_besides_86 rfl ?_
        refine w_iconst (pc := 88) hX dX8_besides_88 ic_1 ?_
        refine w_iadd (pc := 89) hX dX8_besides_89 ?_
        refine w_aload_n (pc := 90) hX dX8_besides_90 rfl rfl ?_
        refine gf_X8_s (pc := 91) hX dX8_besides_91 hX8 (List.mem_of_getElem? (i := 1) rfl) 0 rfl rfl ?_
        refine w_iconst (pc := 94) hX dX8_besides_94 ic_1 ?_
        refine w_iald (pc := 95) hX dX8_besides_95 1 rfl hm (fun hm => ?_)
        refine w_jn (T := fun x8 : Int32 => WW G X 0 0 (wX8 G a_t m_s m_begun m_kept m_isKept m_past m_states m_text m_length m_far m_queue m_isOn m_steps m_wayCells m_turns m_visits m_wasSo m_bestAway m_bestMade m_bestFault m_isHere m_place m_reason m_wide m_high) [none, none, none, none, none] 111 [.int x8]) hm (fun x8 hm => ?_) (fun j9 hj9 hm => ?_)
        ·
          obtain rfl := som hm
          exact w_iret (pc := 111) hX hR dX8_besides_111 ⟨rfl, rfl⟩
        ·
          refine w_icmp_ge (pc := 96) (tgt := 110) hX dX8_besides_96 (by decide) hm (fun hm => ?_) (fun hm => ?_)
          ·
            refine w_iconst (pc := 110) hX dX8_besides_110 ic_m1 ?_
            exact w_lvs [false, false, false, false, false] (hj9 (-1 : Int32) hm)
          ·
            refine w_iload_n (pc := 99) hX dX8_besides_99 rfl rfl ?_
            refine w_aload_n (pc := 100) hX dX8_besides_100 rfl rfl ?_
            refine gf_X8_s (pc := 101) hX dX8_besides_101 hX8 (List.mem_of_getElem? (i := 1) rfl) 0 rfl rfl ?_
            refine w_iconst (pc := 104) hX dX8_besides_104 ic_0 ?_
            refine w_iald (pc := 105) hX dX8_besides_105 1 rfl hm (fun hm => ?_)
            refine w_iadd (pc := 106) hX dX8_besides_106 ?_
            refine w_goto (pc := 107) (tgt := 111) hX dX8_besides_107 (by decide) ?_
            exact w_lvs [false, false, false, false, false] (hj9 (g1 + (m_s (0 : Int32).toNatClampNeg)) hm)
      ·
        replace hm := ite_f hm hc7
        refine w_tabOut (pc := 20) (tgt := 112) hX dX8_besides_20 (tsw_out (n := 2) (fun i hi => by rcases (show i = 0 ∨ i = 1 ∨ i = 2 by omega) with rfl | rfl | rfl <;> assumption)) (by decide) ?_
        refine w_iload_n (pc := 112) hX dX8_besides_112 rfl rfl ?_
        refine w_jn (T := fun x10 : Int32 => WW G X 0 0 (wX8 G a_t m_s m_begun m_kept m_isKept m_past m_states m_text m_length m_far m_queue m_isOn m_steps m_wayCells m_turns m_visits m_wasSo m_bestAway m_bestMade m_bestFault m_isHere m_place m_reason m_wide m_high) [none, none, none, none, none] 123 [.int x10]) hm (fun x10 hm => ?_) (fun j11 hj11 hm => ?_)
        ·
          obtain rfl := som hm
          exact w_iret (pc := 123) hX hR dX8_besides_123 ⟨rfl, rfl⟩
        ·
          refine w_if_le (pc := 113) (tgt := 122) hX dX8_besides_113 (by decide) hm (fun hm => ?_) (fun hm => ?_)
          ·
            refine w_iconst (pc := 122) hX dX8_besides_122 ic_m1 ?_
            exact w_lvs [false, false, false, false, false] (hj11 (-1 : Int32) hm)
          ·
            refine w_iload_n (pc := 116) hX dX8_besides_116 rfl rfl ?_
            refine w_iconst (pc := 117) hX dX8_besides_117 ic_1 ?_
            refine w_isub (pc := 118) hX dX8_besides_118 ?_
            refine w_goto (pc := 119) (tgt := 123) hX dX8_besides_119 (by decide) ?_
            exact w_lvs [false, false, false, false, false] (hj11 (g1 - (1 : Int32)) hm)

set_option maxHeartbeats 4000000 in
set_option maxRecDepth 100000 in
theorem ctX8_numberOf (G : gT) (a_t : Nat → Nat) (m_s : nF) (m_begun : nF) (m_kept : nF) (m_isKept : Int32) (m_past : nF) (m_states : Int32) (m_text : nF) (m_length : Int32) (m_far : nF) (m_queue : nF) (m_isOn : nF) (m_steps : nF) (m_wayCells : Int32) (m_turns : Int32) (m_visits : nF) (m_wasSo : nF) (m_bestAway : Int32) (m_bestMade : Int32) (m_bestFault : Int32) (m_isHere : nF) (m_place : Int32) (m_reason : Int32) (m_wide : Int32) (m_high : Int32) (g1 : Int32) (g2 : Int32) (o : Int32) (hm : mX8_numberOf m_s g1 g2 = some o) : CT G yX8_numberOf wsX8_numberOf rmX8_numberOf [.ref (a_t 0), .int g1, .int g2] (wX8 G a_t m_s m_begun m_kept m_isKept m_past m_states m_text m_length m_far m_queue m_isOn m_steps m_wayCells m_turns m_visits m_wasSo m_bestAway m_bestMade m_bestFault m_isHere m_place m_reason m_wide m_high) (fun v w => v = some (.int o) ∧ w = wX8 G a_t m_s m_begun m_kept m_isKept m_past m_states m_text m_length m_far m_queue m_isOn m_steps m_wayCells m_turns m_visits m_wasSo m_bestAway m_bestMade m_bestFault m_isHere m_place m_reason m_wide m_high) := by
  refine CT_of (cc := cX8_numberOf) (maxL := 4) (ret := (some .int)) 1 (by decide +kernel) rfl rfl (cat_ok rfl) (fun X hX hR hN => ?_)
  have hX : Ok G X cX8_numberOf RX8 wsX8_numberOf 4 rmX8_numberOf := hX
  unfold mX8_numberOf at hm
  refine w_aload_n (pc := 0) hX dX8_numberOf_0 rfl rfl ?_
  refine w_iload_n (pc := 1) hX dX8_numberOf_1 rfl rfl ?_
  refine w_iload_n (pc := 2) hX dX8_numberOf_2 rfl rfl ?_
  obtain ⟨r1, hr1, hm⟩ := bnd hm
  refine w_callpi (pc := 3) hX [0, 1, 2, 3, 4, 5, 6, 7, 8, 9, 10, 11, 12] (runV (rest := []) hX [0, 1, 2, 3, 4, 5, 6, 7, 8, 9, 10, 11, 12] (ctX8_besides G a_t m_s m_begun m_kept m_isKept m_past m_states m_text m_length m_far m_queue m_isOn m_steps m_wayCells m_turns m_visits m_wasSo m_bestAway m_bestMade m_bestFault m_isHere m_place m_reason m_wide m_high g1 g2 r1 hr1) dX8_numberOf_3 2 gX8_numberOf_X8_besides rfl hyX8_besides ⟨Nat.le_of_ble_eq_true rfl, Nat.le_of_ble_eq_true rfl⟩ 0 rfl rfl rfl rfl (Nat.le_of_ble_eq_true rfl) ⟨Nat.le_of_ble_eq_true rfl, Nat.le_of_ble_eq_true rfl⟩ rfl rfl) rfl ⟨rfl, rfl⟩ ?_
  refine w_istore_n (pc := 6) hX dX8_numberOf_6 rfl (Nat.le_of_ble_eq_true rfl) ?_
  refine w_iconst (pc := 7) hX dX8_numberOf_7 ic_2 ?_
  refine w_iload_n (pc := 8) hX dX8_numberOf_8 rfl rfl ?_
  refine w_iconst (pc := 9) hX dX8_numberOf_9 ic_1 ?_
  refine w_jn (T := fun x2 : Int32 => WW G X 0 0 (wX8 G a_t m_s m_begun m_kept m_isKept m_past m_states m_text m_length m_far m_queue m_isOn m_steps m_wayCells m_turns m_visits m_wasSo m_bestAway m_bestMade m_bestFault m_isHere m_place m_reason m_wide m_high) [none, none, some (.int g2), none] 23 [.int x2, .int (2 : Int32)]) hm (fun x2 hm => ?_) (fun j3 hj3 hm => ?_)
  ·
    refine w_imul (pc := 23) hX dX8_numberOf_23 ?_
    refine w_iload_n (pc := 24) hX dX8_numberOf_24 rfl rfl ?_
    refine w_iconst (pc := 25) hX dX8_numberOf_25 ic_2 ?_
    refine w_irem (pc := 26) hX dX8_numberOf_26 hm (fun hm => ?_)
    refine w_jn (T := fun x4 : Int32 => WW G X 0 0 (wX8 G a_t m_s m_begun m_kept m_isKept m_past m_states m_text m_length m_far m_queue m_isOn m_steps m_wayCells m_turns m_visits m_wasSo m_bestAway m_bestMade m_bestFault m_isHere m_place m_reason m_wide m_high) [none, none, none, none] 35 [.int x4, .int ((2 : Int32) * x2)]) hm (fun x4 hm => ?_) (fun j5 hj5 hm => ?_)
    ·
      refine w_iadd (pc := 35) hX dX8_numberOf_35 ?_
      obtain rfl := som hm
      exact w_iret (pc := 36) hX hR dX8_numberOf_36 ⟨rfl, rfl⟩
    ·
      refine w_if_ne (pc := 27) (tgt := 34) hX dX8_numberOf_27 (by decide) hm (fun hm => ?_) (fun hm => ?_)
      ·
        refine w_iconst (pc := 34) hX dX8_numberOf_34 ic_0 ?_
        exact w_lvs [false, false, false, false] (hj5 (0 : Int32) hm)
      ·
        refine w_iconst (pc := 30) hX dX8_numberOf_30 ic_1 ?_
        refine w_goto (pc := 31) (tgt := 35) hX dX8_numberOf_31 (by decide) ?_
        exact w_lvs [false, false, false, false] (hj5 (1 : Int32) hm)
  ·
    refine w_jn (T := fun x6 : Unit => WW G X 0 0 (wX8 G a_t m_s m_begun m_kept m_isKept m_past m_states m_text m_length m_far m_queue m_isOn m_steps m_wayCells m_turns m_visits m_wasSo m_bestAway m_bestMade m_bestFault m_isHere m_place m_reason m_wide m_high) [none, some (.int g1), some (.int g2), none] 18 [.int (2 : Int32)]) hm (fun x6 hm => ?_) (fun j7 hj7 hm => ?_)
    ·
      refine w_iload_n (pc := 18) hX dX8_numberOf_18 rfl rfl ?_
      refine w_goto (pc := 19) (tgt := 23) hX dX8_numberOf_19 (by decide) ?_
      exact w_lvs [false, false, true, false] (hj3 g1 hm)
    ·
      refine w_icmp_eq (pc := 10) (tgt := 18) hX dX8_numberOf_10 (by decide) hm (fun hm => ?_) (fun hm => ?_)
      ·
        exact w_lvs [false, true, true, false] (hj7 () hm)
      ·
        refine w_iload_n (pc := 13) hX dX8_numberOf_13 rfl rfl ?_
        refine w_iconst (pc := 14) hX dX8_numberOf_14 ic_2 ?_
        refine w_icmp_ne (pc := 15) (tgt := 22) hX dX8_numberOf_15 (by decide) hm (fun hm => ?_) (fun hm => ?_)
        ·
          refine w_iload_n (pc := 22) hX dX8_numberOf_22 rfl rfl ?_
          exact w_lvs [false, false, true, false] (hj3 r1 hm)
        ·
          exact w_lvs [false, true, true, false] (hj7 () hm)

theorem lX8_isOpen_X8 : ∀ w ∈ wsX80, w ∈ wsX8_isOpen := in_at [11, 12, 13, 14, 15, 16, 17, 18, 19, 20, 21, 22, 23, 24, 25, 26, 27, 28, 29, 30, 31, 32, 33, 34] (by decide +kernel)
set_option maxHeartbeats 4000000 in
set_option maxRecDepth 100000 in
theorem ctX8_isOpen (G : gT) (a_t : Nat → Nat) (m_s : nF) (m_begun : nF) (m_kept : nF) (m_isKept : Int32) (m_past : nF) (m_states : Int32) (m_text : nF) (m_length : Int32) (m_far : nF) (m_queue : nF) (m_isOn : nF) (m_steps : nF) (m_wayCells : Int32) (m_turns : Int32) (m_visits : nF) (m_wasSo : nF) (m_bestAway : Int32) (m_bestMade : Int32) (m_bestFault : Int32) (m_isHere : nF) (m_place : Int32) (m_reason : Int32) (m_wide : Int32) (m_high : Int32) (g1 : Int32) (g2 : Int32) (o : Int32) (hm : mX8_isOpen m_s g1 g2 = some o) : CT G yX8_isOpen wsX8_isOpen rmX8_isOpen [.ref (a_t 0), .int g1, .int g2] (wX8 G a_t m_s m_begun m_kept m_isKept m_past m_states m_text m_length m_far m_queue m_isOn m_steps m_wayCells m_turns m_visits m_wasSo m_bestAway m_bestMade m_bestFault m_isHere m_place m_reason m_wide m_high) (fun v w => v = some (.int o) ∧ w = wX8 G a_t m_s m_begun m_kept m_isKept m_past m_states m_text m_length m_far m_queue m_isOn m_steps m_wayCells m_turns m_visits m_wasSo m_bestAway m_bestMade m_bestFault m_isHere m_place m_reason m_wide m_high) := by
  refine CT_of (cc := cX8_isOpen) (maxL := 3) (ret := (some .boolean)) 0 (by decide +kernel) rfl rfl (cat_ok rfl) (fun X hX hR hN => ?_)
  have hX : Ok G X cX8_isOpen RX8 wsX8_isOpen 3 rmX8_isOpen := hX
  have hX8 : ∀ w ∈ wsX80, w ∈ wsX8_isOpen := lX8_isOpen_X8
  unfold mX8_isOpen at hm
  refine w_aload_n (pc := 0) hX dX8_isOpen_0 rfl rfl ?_
  refine w_iload_n (pc := 1) hX dX8_isOpen_1 rfl rfl ?_
  refine w_iload_n (pc := 2) hX dX8_isOpen_2 rfl rfl ?_
  obtain ⟨r1, hr1, hm⟩ := bnd hm
  refine w_callpi (pc := 3) hX [0, 1, 2, 3, 4, 5, 6, 7, 8, 9, 10, 11, 12] (runV (rest := []) hX [0, 1, 2, 3, 4, 5, 6, 7, 8, 9, 10, 11, 12] (ctX8_besides G a_t m_s m_begun m_kept m_isKept m_past m_states m_text m_length m_far m_queue m_isOn m_steps m_wayCells m_turns m_visits m_wasSo m_bestAway m_bestMade m_bestFault m_isHere m_place m_reason m_wide m_high g1 g2 r1 hr1) dX8_isOpen_3 2 gX8_isOpen_X8_besides rfl hyX8_besides ⟨Nat.le_of_ble_eq_true rfl, Nat.le_of_ble_eq_true rfl⟩ 0 rfl rfl rfl rfl (Nat.le_of_ble_eq_true rfl) ⟨Nat.le_of_ble_eq_true rfl, Nat.le_of_ble_eq_true rfl⟩ rfl rfl) rfl ⟨rfl, rfl⟩ ?_
  refine w_jn (T := fun x2 : Int32 => WW G X 0 0 (wX8 G a_t m_s m_begun m_kept m_isKept m_past m_states m_text m_length m_far m_queue m_isOn m_steps m_wayCells m_turns m_visits m_wasSo m_bestAway m_bestMade m_bestFault m_isHere m_place m_reason m_wide m_high) [none, none, none] 32 [.int x2]) hm (fun x2 hm => ?_) (fun j3 hj3 hm => ?_)
  ·
    refine w_zret (pc := 32) hX hR dX8_isOpen_32 hm (fun hm => ?_)
    obtain rfl := som hm
    exact ⟨rfl, rfl⟩
  ·
    refine w_jn (T := fun x4 : Unit => WW G X 0 0 (wX8 G a_t m_s m_begun m_kept m_isKept m_past m_states m_text m_length m_far m_queue m_isOn m_steps m_wayCells m_turns m_visits m_wasSo m_bestAway m_bestMade m_bestFault m_isHere m_place m_reason m_wide m_high) [none, none, none] 31 []) hm (fun x4 hm => ?_) (fun j5 hj5 hm => ?_)
    ·
      refine w_iconst (pc := 31) hX dX8_isOpen_31 ic_0 ?_
      exact w_lvs [false, false, false] (hj3 (0 : Int32) hm)
    ·
      refine w_if_lt (pc := 6) (tgt := 31) hX dX8_isOpen_6 (by decide) hm (fun hm => ?_) (fun hm => ?_)
      ·
        exact w_lvs [false, false, false] (hj5 () hm)
      ·
        refine w_aload_n (pc := 9) hX dX8_isOpen_9 rfl rfl ?_
        refine gf_X8_s (pc := 10) hX dX8_isOpen_10 hX8 (List.mem_of_getElem? (i := 1) rfl) 0 rfl rfl ?_
        refine w_bipush (pc := 13) hX dX8_isOpen_13 bp_42 ?_
        refine w_aload_n (pc := 15) hX dX8_isOpen_15 rfl rfl ?_
        refine w_iload_n (pc := 16) hX dX8_isOpen_16 rfl rfl ?_
        refine w_iload_n (pc := 17) hX dX8_isOpen_17 rfl rfl ?_
        obtain ⟨r6, hr6, hm⟩ := bnd hm
        refine w_callpi (pc := 18) hX [0, 1, 2, 3, 4, 5, 6, 7, 8, 9, 10, 11, 12] (runV (rest := [.int (42 : Int32), .ref (a_t 1)]) hX [0, 1, 2, 3, 4, 5, 6, 7, 8, 9, 10, 11, 12] (ctX8_numberOf G a_t m_s m_begun m_kept m_isKept m_past m_states m_text m_length m_far m_queue m_isOn m_steps m_wayCells m_turns m_visits m_wasSo m_bestAway m_bestMade m_bestFault m_isHere m_place m_reason m_wide m_high g1 g2 r6 hr6) dX8_isOpen_18 2 gX8_isOpen_X8_numberOf rfl hyX8_numberOf ⟨Nat.le_of_ble_eq_true rfl, Nat.le_of_ble_eq_true rfl⟩ 0 rfl rfl rfl rfl (Nat.le_of_ble_eq_true rfl) ⟨Nat.le_of_ble_eq_true rfl, Nat.le_of_ble_eq_true rfl⟩ rfl rfl) rfl ⟨rfl, rfl⟩ ?_
        refine w_iadd (pc := 21) hX dX8_isOpen_21 ?_
        refine w_iald (pc := 22) hX dX8_isOpen_22 1 rfl hm (fun hm => ?_)
        refine w_iconst (pc := 23) hX dX8_isOpen_23 ic_1 ?_
        refine w_icmp_ne (pc := 24) (tgt := 31) hX dX8_isOpen_24 (by decide) hm (fun hm => ?_) (fun hm => ?_)
        ·
          exact w_lvs [false, false, false] (hj5 () hm)
        ·
          refine w_iconst (pc := 27) hX dX8_isOpen_27 ic_1 ?_
          refine w_goto (pc := 28) (tgt := 32) hX dX8_isOpen_28 (by decide) ?_
          exact w_lvs [false, false, false] (hj3 (1 : Int32) hm)

set_option maxHeartbeats 4000000 in
set_option maxRecDepth 100000 in
theorem ctX8_second (G : gT) (a_t : Nat → Nat) (m_s : nF) (m_begun : nF) (m_kept : nF) (m_isKept : Int32) (m_past : nF) (m_states : Int32) (m_text : nF) (m_length : Int32) (m_far : nF) (m_queue : nF) (m_isOn : nF) (m_steps : nF) (m_wayCells : Int32) (m_turns : Int32) (m_visits : nF) (m_wasSo : nF) (m_bestAway : Int32) (m_bestMade : Int32) (m_bestFault : Int32) (m_isHere : nF) (m_place : Int32) (m_reason : Int32) (m_wide : Int32) (m_high : Int32) (g1 : Int32) (o : Int32) (hm : mX8_second m_s g1 = some o) : CT G yX8_second wsX8_second rmX8_second [.ref (a_t 0), .int g1] (wX8 G a_t m_s m_begun m_kept m_isKept m_past m_states m_text m_length m_far m_queue m_isOn m_steps m_wayCells m_turns m_visits m_wasSo m_bestAway m_bestMade m_bestFault m_isHere m_place m_reason m_wide m_high) (fun v w => v = some (.int o) ∧ w = wX8 G a_t m_s m_begun m_kept m_isKept m_past m_states m_text m_length m_far m_queue m_isOn m_steps m_wayCells m_turns m_visits m_wasSo m_bestAway m_bestMade m_bestFault m_isHere m_place m_reason m_wide m_high) := by
  refine CT_of (cc := cX8_second) (maxL := 2) (ret := (some .int)) 0 (by decide +kernel) rfl rfl (cat_ok rfl) (fun X hX hR hN => ?_)
  have hX : Ok G X cX8_second RX8 wsX8_second 2 rmX8_second := hX
  unfold mX8_second at hm
  refine w_aload_n (pc := 0) hX dX8_second_0 rfl rfl ?_
  refine w_iload_n (pc := 1) hX dX8_second_1 rfl rfl ?_
  refine w_iconst (pc := 2) hX dX8_second_2 ic_2 ?_
  refine w_idiv (pc := 3) hX dX8_second_3 hm (fun hm => ?_)
  refine w_iload_n (pc := 4) hX dX8_second_4 rfl rfl ?_
  refine w_iconst (pc := 5) hX dX8_second_5 ic_2 ?_
  refine w_irem (pc := 6) hX dX8_second_6 hm (fun hm => ?_)
  refine w_jn (T := fun x1 : Int32 => WW G X 0 0 (wX8 G a_t m_s m_begun m_kept m_isKept m_past m_states m_text m_length m_far m_queue m_isOn m_steps m_wayCells m_turns m_visits m_wasSo m_bestAway m_bestMade m_bestFault m_isHere m_place m_reason m_wide m_high) [none, none] 15 [.int x1, .int (g1 / (2 : Int32)), .ref (a_t 0)]) hm (fun x1 hm => ?_) (fun j2 hj2 hm => ?_)
  ·
    obtain ⟨r3, hr3, hm⟩ := bnd hm
    refine w_callpi (pc := 15) hX [0, 1, 2, 3, 4, 5, 6, 7, 8, 9, 10, 11, 12] (runV (rest := []) hX [0, 1, 2, 3, 4, 5, 6, 7, 8, 9, 10, 11, 12] (ctX8_besides G a_t m_s m_begun m_kept m_isKept m_past m_states m_text m_length m_far m_queue m_isOn m_steps m_wayCells m_turns m_visits m_wasSo m_bestAway m_bestMade m_bestFault m_isHere m_place m_reason m_wide m_high (g1 / (2 : Int32)) x1 r3 hr3) dX8_second_15 2 gX8_second_X8_besides rfl hyX8_besides ⟨Nat.le_of_ble_eq_true rfl, Nat.le_of_ble_eq_true rfl⟩ 0 rfl rfl rfl rfl (Nat.le_of_ble_eq_true rfl) ⟨Nat.le_of_ble_eq_true rfl, Nat.le_of_ble_eq_true rfl⟩ rfl rfl) rfl ⟨rfl, rfl⟩ ?_
    obtain rfl := som hm
    exact w_iret (pc := 18) hX hR dX8_second_18 ⟨rfl, rfl⟩
  ·
    refine w_if_ne (pc := 7) (tgt := 14) hX dX8_second_7 (by decide) hm (fun hm => ?_) (fun hm => ?_)
    ·
      refine w_iconst (pc := 14) hX dX8_second_14 ic_2 ?_
      exact w_lvs [false, false] (hj2 (2 : Int32) hm)
    ·
      refine w_iconst (pc := 10) hX dX8_second_10 ic_1 ?_
      refine w_goto (pc := 11) (tgt := 15) hX dX8_second_11 (by decide) ?_
      exact w_lvs [false, false] (hj2 (1 : Int32) hm)

theorem lX8_measures_X8 : ∀ w ∈ wsX80, w ∈ wsX8_measures := in_at [21, 22, 23, 24, 25, 26, 27, 28, 29, 30, 31, 32, 33, 34, 35, 36, 37, 38, 39, 40, 41, 42, 43, 44] (by decide +kernel)
set_option maxHeartbeats 4000000 in
set_option maxRecDepth 100000 in
theorem ctX8_measures (G : gT) (F : Nat) (a_t : Nat → Nat) (m_s : nF) (m_begun : nF) (m_kept : nF) (m_isKept : Int32) (m_past : nF) (m_states : Int32) (m_text : nF) (m_length : Int32) (m_far : nF) (m_queue : nF) (m_isOn : nF) (m_steps : nF) (m_wayCells : Int32) (m_turns : Int32) (m_visits : nF) (m_wasSo : nF) (m_bestAway : Int32) (m_bestMade : Int32) (m_bestFault : Int32) (m_isHere : nF) (m_place : Int32) (m_reason : Int32) (m_wide : Int32) (m_high : Int32) (g1 : Int32) (o : (nF × nF)) (hm : mX8_measures F m_s m_far m_queue g1 = some o) : CT G yX8_measures wsX8_measures rmX8_measures [.ref (a_t 0), .int g1] (wX8 G a_t m_s m_begun m_kept m_isKept m_past m_states m_text m_length m_far m_queue m_isOn m_steps m_wayCells m_turns m_visits m_wasSo m_bestAway m_bestMade m_bestFault m_isHere m_place m_reason m_wide m_high) (fun v w => v = none ∧ w = wX8 G a_t m_s m_begun m_kept m_isKept m_past m_states m_text m_length o.1 o.2 m_isOn m_steps m_wayCells m_turns m_visits m_wasSo m_bestAway m_bestMade m_bestFault m_isHere m_place m_reason m_wide m_high) := by
  refine CT_of (cc := cX8_measures) (maxL := 7) (ret := none) 5 (by decide +kernel) rfl rfl (cat_ok rfl) (fun X hX hR hN => ?_)
  have hX : Ok G X cX8_measures RX8 wsX8_measures 7 rmX8_measures := hX
  have hX8 : ∀ w ∈ wsX80, w ∈ wsX8_measures := lX8_measures_X8
  unfold mX8_measures at hm
  refine w_iconst (pc := 0) hX dX8_measures_0 ic_0 ?_
  refine w_istore_n (pc := 1) hX dX8_measures_1 rfl (Nat.le_of_ble_eq_true rfl) ?_
  refine w_jn (T := fun x1 : nF => WW G X 0 0 (wX8 G a_t m_s m_begun m_kept m_isKept m_past m_states m_text m_length x1 m_queue m_isOn m_steps m_wayCells m_turns m_visits m_wasSo m_bestAway m_bestMade m_bestFault m_isHere m_place m_reason m_wide m_high) [some (.ref (a_t 0)), some (.int g1), none, none, none, none, none] 23 []) hm (fun x1 hm => ?_) (fun j2 hj2 hm => ?_)
  ·
    unfold mX8_measures_K23 at hm
    refine w_aload_n (pc := 23) hX dX8_measures_23 rfl rfl ?_
    refine gf_X8_far (pc := 24) hX dX8_measures_24 hX8 (List.mem_of_getElem? (i := 1) rfl) 0 rfl rfl ?_
    refine w_iload_n (pc := 27) hX dX8_measures_27 rfl rfl ?_
    refine w_iconst (pc := 28) hX dX8_measures_28 ic_0 ?_
    refine w_iast (pc := 29) hX dX8_measures_29 6 rfl hm (fun hm => ?_)
    refine w_aload_n (pc := 30) hX dX8_measures_30 rfl rfl ?_
    refine gf_X8_queue (pc := 31) hX dX8_measures_31 hX8 (List.mem_of_getElem? (i := 2) rfl) 0 rfl rfl ?_
    refine w_iconst (pc := 34) hX dX8_measures_34 ic_0 ?_
    refine w_iload_n (pc := 35) hX dX8_measures_35 rfl rfl ?_
    refine w_iast (pc := 36) hX dX8_measures_36 7 rfl hm (fun hm => ?_)
    refine w_iconst (pc := 37) hX dX8_measures_37 ic_1 ?_
    refine w_istore_n (pc := 38) hX dX8_measures_38 rfl (Nat.le_of_ble_eq_true rfl) ?_
    refine w_iconst (pc := 39) hX dX8_measures_39 ic_0 ?_
    refine w_istore_n (pc := 40) hX dX8_measures_40 rfl (Nat.le_of_ble_eq_true rfl) ?_
    refine w_lvs [true, false, true, true, false, false, false] ?_
    refine lpr_ind (T := fun x3 : (Int32 × Int32 × nF × nF) => WW G X 0 0 (wX8 G a_t m_s m_begun m_kept m_isKept m_past m_states m_text m_length x3.2.2.1 x3.2.2.2 m_isOn m_steps m_wayCells m_turns m_visits m_wasSo m_bestAway m_bestMade m_bestFault m_isHere m_place m_reason m_wide m_high) [some (.ref (a_t 0)), none, some (.int x3.1), some (.int x3.2.1), none, none, none] 41 []) (fun self4 hself4 x3 hm => ?_) F ((1 : Int32), (0 : Int32), (upd x1 g1.toNatClampNeg (0 : Int32)), (upd m_queue (0 : Int32).toNatClampNeg g1)) hm
    unfold mX8_measures_L41 at hm
    refine w_iload_n (pc := 41) hX dX8_measures_41 rfl rfl ?_
    refine w_iload_n (pc := 42) hX dX8_measures_42 rfl rfl ?_
    refine w_icmp_ge (pc := 43) (tgt := 142) hX dX8_measures_43 (by decide) hm (fun hm => ?_) (fun hm => ?_)
    ·
      obtain rfl := som hm
      exact w_vret (pc := 142) hX hR dX8_measures_142 ⟨rfl, rfl⟩
    ·
      refine w_aload_n (pc := 46) hX dX8_measures_46 rfl rfl ?_
      refine gf_X8_queue (pc := 47) hX dX8_measures_47 hX8 (List.mem_of_getElem? (i := 2) rfl) 0 rfl rfl ?_
      refine w_iload_n (pc := 50) hX dX8_measures_50 rfl rfl ?_
      refine w_iald (pc := 51) hX dX8_measures_51 7 rfl hm (fun hm => ?_)
      refine w_istore (pc := 52) hX dX8_measures_52 (Nat.le_of_ble_eq_true rfl) ?_
      refine w_iconst (pc := 54) hX dX8_measures_54 ic_0 ?_
      refine w_istore (pc := 55) hX dX8_measures_55 (Nat.le_of_ble_eq_true rfl) ?_
      refine w_jn (T := fun x5 : (Int32 × nF × nF) => WW G X 0 0 (wX8 G a_t m_s m_begun m_kept m_isKept m_past m_states m_text m_length x5.2.1 x5.2.2 m_isOn m_steps m_wayCells m_turns m_visits m_wasSo m_bestAway m_bestMade m_bestFault m_isHere m_place m_reason m_wide m_high) [some (.ref (a_t 0)), none, some (.int x5.1), some (.int x3.2.1), none, none, none] 136 []) hm (fun x5 hm => ?_) (fun j6 hj6 hm => ?_)
      ·
        unfold mX8_measures_K136 at hm
        refine w_iinc (pc := 136) hX dX8_measures_136 rfl (Nat.le_of_ble_eq_true rfl) ic_1 ?_
        refine w_goto (pc := 139) (tgt := 41) hX dX8_measures_139 (by decide) ?_
        exact w_lvs [true, false, true, true, false, false, false] (hself4 (x5.1, x3.2.1 + (1 : Int32), x5.2.1, x5.2.2) hm)
      ·
        refine w_lvs [true, false, true, true, true, true, false] ?_
        refine lpr_ind (T := fun x7 : (Int32 × Int32 × nF × nF) => WW G X 0 0 (wX8 G a_t m_s m_begun m_kept m_isKept m_past m_states m_text m_length x7.2.2.1 x7.2.2.2 m_isOn m_steps m_wayCells m_turns m_visits m_wasSo m_bestAway m_bestMade m_bestFault m_isHere m_place m_reason m_wide m_high) [some (.ref (a_t 0)), none, some (.int x7.1), some (.int x3.2.1), some (.int (x3.2.2.2 x3.2.1.toNatClampNeg)), some (.int x7.2.1), none] 57 []) (fun self8 hself8 x7 hm => ?_) F (x3.1, (0 : Int32), x3.2.2.1, x3.2.2.2) hm
        unfold mX8_measures_L57 at hm
        refine w_iload (pc := 57) hX dX8_measures_57 rfl ?_
        refine w_iconst (pc := 59) hX dX8_measures_59 ic_4 ?_
        refine w_icmp_ge (pc := 60) (tgt := 136) hX dX8_measures_60 (by decide) hm (fun hm => ?_) (fun hm => ?_)
        ·
          exact w_lvs [true, false, true, true, false, false, false] (hj6 (x7.1, x7.2.2.1, x7.2.2.2) hm)
        ·
          refine w_aload_n (pc := 63) hX dX8_measures_63 rfl rfl ?_
          refine w_iload (pc := 64) hX dX8_measures_64 rfl ?_
          refine w_iload (pc := 66) hX dX8_measures_66 rfl ?_
          obtain ⟨r9, hr9, hm⟩ := bnd hm
          refine w_callpi (pc := 68) hX [0, 1, 2, 3, 4, 5, 6, 7, 8, 9, 10, 11, 12] (runV (rest := []) hX [0, 1, 2, 3, 4, 5, 6, 7, 8, 9, 10, 11, 12] (ctX8_isOpen G a_t m_s m_begun m_kept m_isKept m_past m_states m_text m_length x7.2.2.1 x7.2.2.2 m_isOn m_steps m_wayCells m_turns m_visits m_wasSo m_bestAway m_bestMade m_bestFault m_isHere m_place m_reason m_wide m_high (x3.2.2.2 x3.2.1.toNatClampNeg) x7.2.1 r9 hr9) dX8_measures_68 2 gX8_measures_X8_isOpen rfl hyX8_isOpen ⟨Nat.le_of_ble_eq_true rfl, Nat.le_of_ble_eq_true rfl⟩ 0 rfl rfl rfl rfl (Nat.le_of_ble_eq_true rfl) ⟨Nat.le_of_ble_eq_true rfl, Nat.le_of_ble_eq_true rfl⟩ rfl rfl) rfl ⟨rfl, rfl⟩ ?_
          refine w_jn (T := fun x10 : Int32 => WW G X 0 0 (wX8 G a_t m_s m_begun m_kept m_isKept m_past m_states m_text m_length x7.2.2.1 x7.2.2.2 m_isOn m_steps m_wayCells m_turns m_visits m_wasSo m_bestAway m_bestMade m_bestFault m_isHere m_place m_reason m_wide m_high) [some (.ref (a_t 0)), none, some (.int x7.1), some (.int x3.2.1), some (.int (x3.2.2.2 x3.2.1.toNatClampNeg)), some (.int x7.2.1), none] 86 [.int x10]) hm (fun x10 hm => ?_) (fun j11 hj11 hm => ?_)
          ·
            refine w_istore (pc := 86) hX dX8_measures_86 (Nat.le_of_ble_eq_true rfl) ?_
            refine w_iload (pc := 88) hX dX8_measures_88 rfl ?_
            refine w_jn (T := fun x12 : (Int32 × nF × nF) => WW G X 0 0 (wX8 G a_t m_s m_begun m_kept m_isKept m_past m_states m_text m_length x12.2.1 x12.2.2 m_isOn m_steps m_wayCells m_turns m_visits m_wasSo m_bestAway m_bestMade m_bestFault m_isHere m_place m_reason m_wide m_high) [some (.ref (a_t 0)), none, some (.int x12.1), some (.int x3.2.1), some (.int (x3.2.2.2 x3.2.1.toNatClampNeg)), some (.int x7.2.1), none] 130 []) hm (fun x12 hm => ?_) (fun j13 hj13 hm => ?_)
            ·
              refine w_iinc (pc := 130) hX dX8_measures_130 rfl (Nat.le_of_ble_eq_true rfl) ic_1 ?_
              refine w_goto (pc := 133) (tgt := 57) hX dX8_measures_133 (by decide) ?_
              exact w_lvs [true, false, true, true, true, true, false] (hself8 (x12.1, x7.2.1 + (1 : Int32), x12.2.1, x12.2.2) hm)
            ·
              refine w_if_lt (pc := 90) (tgt := 130) hX dX8_measures_90 (by decide) hm (fun hm => ?_) (fun hm => ?_)
              ·
                exact w_lvs [true, false, true, true, true, true, false] (hj13 (x7.1, x7.2.2.1, x7.2.2.2) hm)
              ·
                refine w_aload_n (pc := 93) hX dX8_measures_93 rfl rfl ?_
                refine gf_X8_far (pc := 94) hX dX8_measures_94 hX8 (List.mem_of_getElem? (i := 1) rfl) 0 rfl rfl ?_
                refine w_iload (pc := 97) hX dX8_measures_97 rfl ?_
                refine w_iald (pc := 99) hX dX8_measures_99 6 rfl hm (fun hm => ?_)
                refine w_if_ge (pc := 100) (tgt := 130) hX dX8_measures_100 (by decide) hm (fun hm => ?_) (fun hm => ?_)
                ·
                  exact w_lvs [true, false, true, true, true, true, false] (hj13 (x7.1, x7.2.2.1, x7.2.2.2) hm)
                ·
                  refine w_aload_n (pc := 103) hX dX8_measures_103 rfl rfl ?_
                  refine gf_X8_far (pc := 104) hX dX8_measures_104 hX8 (List.mem_of_getElem? (i := 1) rfl) 0 rfl rfl ?_
                  refine w_iload (pc := 107) hX dX8_measures_107 rfl ?_
                  refine w_aload_n (pc := 109) hX dX8_measures_109 rfl rfl ?_
                  refine gf_X8_far (pc := 110) hX dX8_measures_110 hX8 (List.mem_of_getElem? (i := 1) rfl) 0 rfl rfl ?_
                  refine w_iload (pc := 113) hX dX8_measures_113 rfl ?_
                  refine w_iald (pc := 115) hX dX8_measures_115 6 rfl hm (fun hm => ?_)
                  refine w_iconst (pc := 116) hX dX8_measures_116 ic_1 ?_
                  refine w_iadd (pc := 117) hX dX8_measures_117 ?_
                  refine w_iast (pc := 118) hX dX8_measures_118 6 rfl hm (fun hm => ?_)
                  refine w_aload_n (pc := 119) hX dX8_measures_119 rfl rfl ?_
                  refine gf_X8_queue (pc := 120) hX dX8_measures_120 hX8 (List.mem_of_getElem? (i := 2) rfl) 0 rfl rfl ?_
                  refine w_iload_n (pc := 123) hX dX8_measures_123 rfl rfl ?_
                  refine w_iload (pc := 124) hX dX8_measures_124 rfl ?_
                  refine w_iast (pc := 126) hX dX8_measures_126 7 rfl hm (fun hm => ?_)
                  refine w_iinc (pc := 127) hX dX8_measures_127 rfl (Nat.le_of_ble_eq_true rfl) ic_1 ?_
                  exact w_lvs [true, false, true, true, true, true, false] (hj13 (x7.1 + (1 : Int32), (upd x7.2.2.1 x10.toNatClampNeg ((x7.2.2.1 (x3.2.2.2 x3.2.1.toNatClampNeg).toNatClampNeg) + (1 : Int32))), (upd x7.2.2.2 x7.1.toNatClampNeg x10)) hm)
          ·
            refine w_if_eq (pc := 71) (tgt := 85) hX dX8_measures_71 (by decide) hm (fun hm => ?_) (fun hm => ?_)
            ·
              refine w_iconst (pc := 85) hX dX8_measures_85 ic_m1 ?_
              exact w_lvs [true, false, true, true, true, true, false] (hj11 (-1 : Int32) hm)
            ·
              refine w_aload_n (pc := 74) hX dX8_measures_74 rfl rfl ?_
              refine w_iload (pc := 75) hX dX8_measures_75 rfl ?_
              refine w_iload (pc := 77) hX dX8_measures_77 rfl ?_
              obtain ⟨r14, hr14, hm⟩ := bnd hm
              refine w_callpi (pc := 79) hX [0, 1, 2, 3, 4, 5, 6, 7, 8, 9, 10, 11, 12] (runV (rest := []) hX [0, 1, 2, 3, 4, 5, 6, 7, 8, 9, 10, 11, 12] (ctX8_besides G a_t m_s m_begun m_kept m_isKept m_past m_states m_text m_length x7.2.2.1 x7.2.2.2 m_isOn m_steps m_wayCells m_turns m_visits m_wasSo m_bestAway m_bestMade m_bestFault m_isHere m_place m_reason m_wide m_high (x3.2.2.2 x3.2.1.toNatClampNeg) x7.2.1 r14 hr14) dX8_measures_79 2 gX8_measures_X8_besides rfl hyX8_besides ⟨Nat.le_of_ble_eq_true rfl, Nat.le_of_ble_eq_true rfl⟩ 0 rfl rfl rfl rfl (Nat.le_of_ble_eq_true rfl) ⟨Nat.le_of_ble_eq_true rfl, Nat.le_of_ble_eq_true rfl⟩ rfl rfl) rfl ⟨rfl, rfl⟩ ?_
              refine w_goto (pc := 82) (tgt := 86) hX dX8_measures_82 (by decide) ?_
              exact w_lvs [true, false, true, true, true, true, false] (hj11 r14 hm)
  ·
    refine w_lvs [true, true, true, false, false, false, false] ?_
    refine lpr_ind (T := fun x15 : (Int32 × nF) => WW G X 0 0 (wX8 G a_t m_s m_begun m_kept m_isKept m_past m_states m_text m_length x15.2 m_queue m_isOn m_steps m_wayCells m_turns m_visits m_wasSo m_bestAway m_bestMade m_bestFault m_isHere m_place m_reason m_wide m_high) [some (.ref (a_t 0)), some (.int g1), some (.int x15.1), none, none, none, none] 2 []) (fun self16 hself16 x15 hm => ?_) F ((0 : Int32), m_far) hm
    unfold mX8_measures_L2 at hm
    refine w_iload_n (pc := 2) hX dX8_measures_2 rfl rfl ?_
    refine w_aload_n (pc := 3) hX dX8_measures_3 rfl rfl ?_
    obtain ⟨r17, hr17, hm⟩ := bnd hm
    refine w_callpi (pc := 4) hX [0, 1, 2, 3, 4, 5, 6, 7, 8, 9, 10, 11, 12] (runV (rest := [.int x15.1]) hX [0, 1, 2, 3, 4, 5, 6, 7, 8, 9, 10, 11, 12] (ctX8_cells G a_t m_s m_begun m_kept m_isKept m_past m_states m_text m_length x15.2 m_queue m_isOn m_steps m_wayCells m_turns m_visits m_wasSo m_bestAway m_bestMade m_bestFault m_isHere m_place m_reason m_wide m_high r17 hr17) dX8_measures_4 0 gX8_measures_X8_cells rfl hyX8_cells ⟨Nat.le_of_ble_eq_true rfl, Nat.le_of_ble_eq_true rfl⟩ 0 rfl rfl rfl rfl (Nat.le_of_ble_eq_true rfl) ⟨Nat.le_of_ble_eq_true rfl, Nat.le_of_ble_eq_true rfl⟩ rfl rfl) rfl ⟨rfl, rfl⟩ ?_
    refine w_icmp_ge (pc := 7) (tgt := 23) hX dX8_measures_7 (by decide) hm (fun hm => ?_) (fun hm => ?_)
    ·
      exact w_lvs [true, true, false, false, false, false, false] (hj2 x15.2 hm)
    ·
      refine w_aload_n (pc := 10) hX dX8_measures_10 rfl rfl ?_
      refine gf_X8_far (pc := 11) hX dX8_measures_11 hX8 (List.mem_of_getElem? (i := 1) rfl) 0 rfl rfl ?_
      refine w_iload_n (pc := 14) hX dX8_measures_14 rfl rfl ?_
      refine w_iconst (pc := 15) hX dX8_measures_15 ic_m1 ?_
      refine w_iast (pc := 16) hX dX8_measures_16 6 rfl hm (fun hm => ?_)
      refine w_iinc (pc := 17) hX dX8_measures_17 rfl (Nat.le_of_ble_eq_true rfl) ic_1 ?_
      refine w_goto (pc := 20) (tgt := 2) hX dX8_measures_20 (by decide) ?_
      exact w_lvs [true, true, true, false, false, false, false] (hself16 (x15.1 + (1 : Int32), (upd x15.2 x15.1.toNatClampNeg (-1 : Int32))) hm)

theorem lX8_areJoined_X8 : ∀ w ∈ wsX80, w ∈ wsX8_areJoined := in_at [25, 26, 27, 28, 29, 30, 31, 32, 33, 34, 35, 36, 37, 38, 39, 40, 41, 42, 43, 44, 45, 46, 47, 48] (by decide +kernel)
set_option maxHeartbeats 4000000 in
set_option maxRecDepth 100000 in
theorem ctX8_areJoined (G : gT) (F : Nat) (a_t : Nat → Nat) (m_s : nF) (m_begun : nF) (m_kept : nF) (m_isKept : Int32) (m_past : nF) (m_states : Int32) (m_text : nF) (m_length : Int32) (m_far : nF) (m_queue : nF) (m_isOn : nF) (m_steps : nF) (m_wayCells : Int32) (m_turns : Int32) (m_visits : nF) (m_wasSo : nF) (m_bestAway : Int32) (m_bestMade : Int32) (m_bestFault : Int32) (m_isHere : nF) (m_place : Int32) (m_reason : Int32) (m_wide : Int32) (m_high : Int32) (g1 : Int32) (g2 : Int32) (o : (Int32 × nF × nF)) (hm : mX8_areJoined F m_s m_far m_queue g1 g2 = some o) : CT G yX8_areJoined wsX8_areJoined rmX8_areJoined [.ref (a_t 0), .int g1, .int g2] (wX8 G a_t m_s m_begun m_kept m_isKept m_past m_states m_text m_length m_far m_queue m_isOn m_steps m_wayCells m_turns m_visits m_wasSo m_bestAway m_bestMade m_bestFault m_isHere m_place m_reason m_wide m_high) (fun v w => v = some (.int o.1) ∧ w = wX8 G a_t m_s m_begun m_kept m_isKept m_past m_states m_text m_length o.2.1 o.2.2 m_isOn m_steps m_wayCells m_turns m_visits m_wasSo m_bestAway m_bestMade m_bestFault m_isHere m_place m_reason m_wide m_high) := by
  refine CT_of (cc := cX8_areJoined) (maxL := 3) (ret := (some .boolean)) 0 (by decide +kernel) rfl rfl (cat_ok rfl) (fun X hX hR hN => ?_)
  have hX : Ok G X cX8_areJoined RX8 wsX8_areJoined 3 rmX8_areJoined := hX
  have hX8 : ∀ w ∈ wsX80, w ∈ wsX8_areJoined := lX8_areJoined_X8
  unfold mX8_areJoined at hm
  refine w_aload_n (pc := 0) hX dX8_areJoined_0 rfl rfl ?_
  refine w_iload_n (pc := 1) hX dX8_areJoined_1 rfl rfl ?_
  obtain ⟨r1, hr1, hm⟩ := bnd hm
  refine w_calldv (pc := 2) (ws' := wX8 G a_t m_s m_begun m_kept m_isKept m_past m_states m_text m_length r1.1 r1.2 m_isOn m_steps m_wayCells m_turns m_visits m_wasSo m_bestAway m_bestMade m_bestFault m_isHere m_place m_reason m_wide m_high) hX [0, 1, 2, 3, 4, 5, 6, 7, 8, 9, 10, 11, 12] (runV (rest := []) hX [0, 1, 2, 3, 4, 5, 6, 7, 8, 9, 10, 11, 12] (ctX8_measures G F a_t m_s m_begun m_kept m_isKept m_past m_states m_text m_length m_far m_queue m_isOn m_steps m_wayCells m_turns m_visits m_wasSo m_bestAway m_bestMade m_bestFault m_isHere m_place m_reason m_wide m_high g1 r1 hr1) dX8_areJoined_2 1 gX8_areJoined_X8_measures rfl hyX8_measures ⟨Nat.le_of_ble_eq_true rfl, Nat.le_of_ble_eq_true rfl⟩ 0 rfl rfl rfl rfl (Nat.le_of_ble_eq_true rfl) ⟨Nat.le_of_ble_eq_true rfl, Nat.le_of_ble_eq_true rfl⟩ rfl rfl) rfl rfl rfl ⟨rfl, rfl⟩ ?_
  refine w_aload_n (pc := 5) hX dX8_areJoined_5 rfl rfl ?_
  refine gf_X8_far (pc := 6) hX dX8_areJoined_6 hX8 (List.mem_of_getElem? (i := 1) rfl) 0 rfl rfl ?_
  refine w_iload_n (pc := 9) hX dX8_areJoined_9 rfl rfl ?_
  refine w_iald (pc := 10) hX dX8_areJoined_10 6 rfl hm (fun hm => ?_)
  refine w_jn (T := fun x2 : Int32 => WW G X 0 0 (wX8 G a_t m_s m_begun m_kept m_isKept m_past m_states m_text m_length r1.1 r1.2 m_isOn m_steps m_wayCells m_turns m_visits m_wasSo m_bestAway m_bestMade m_bestFault m_isHere m_place m_reason m_wide m_high) [none, none, none] 19 [.int x2]) hm (fun x2 hm => ?_) (fun j3 hj3 hm => ?_)
  ·
    refine w_zret (pc := 19) hX hR dX8_areJoined_19 hm (fun hm => ?_)
    obtain rfl := som hm
    exact ⟨rfl, rfl⟩
  ·
    refine w_if_lt (pc := 11) (tgt := 18) hX dX8_areJoined_11 (by decide) hm (fun hm => ?_) (fun hm => ?_)
    ·
      refine w_iconst (pc := 18) hX dX8_areJoined_18 ic_0 ?_
      exact w_lvs [false, false, false] (hj3 (0 : Int32) hm)
    ·
      refine w_iconst (pc := 14) hX dX8_areJoined_14 ic_1 ?_
      refine w_goto (pc := 15) (tgt := 19) hX dX8_areJoined_15 (by decide) ?_
      exact w_lvs [false, false, false] (hj3 (1 : Int32) hm)

theorem lX8_passages_X8 : ∀ w ∈ wsX80, w ∈ wsX8_passages := in_at [7, 8, 9, 10, 11, 12, 13, 14, 15, 16, 17, 18, 19, 20, 21, 22, 23, 24, 25, 26, 27, 28, 29, 30] (by decide +kernel)
set_option maxHeartbeats 4000000 in
set_option maxRecDepth 100000 in
theorem ctX8_passages (G : gT) (F : Nat) (a_t : Nat → Nat) (m_s : nF) (m_begun : nF) (m_kept : nF) (m_isKept : Int32) (m_past : nF) (m_states : Int32) (m_text : nF) (m_length : Int32) (m_far : nF) (m_queue : nF) (m_isOn : nF) (m_steps : nF) (m_wayCells : Int32) (m_turns : Int32) (m_visits : nF) (m_wasSo : nF) (m_bestAway : Int32) (m_bestMade : Int32) (m_bestFault : Int32) (m_isHere : nF) (m_place : Int32) (m_reason : Int32) (m_wide : Int32) (m_high : Int32) (o : Int32) (hm : mX8_passages F m_s = some o) : CT G yX8_passages wsX8_passages rmX8_passages [.ref (a_t 0)] (wX8 G a_t m_s m_begun m_kept m_isKept m_past m_states m_text m_length m_far m_queue m_isOn m_steps m_wayCells m_turns m_visits m_wasSo m_bestAway m_bestMade m_bestFault m_isHere m_place m_reason m_wide m_high) (fun v w => v = some (.int o) ∧ w = wX8 G a_t m_s m_begun m_kept m_isKept m_past m_states m_text m_length m_far m_queue m_isOn m_steps m_wayCells m_turns m_visits m_wasSo m_bestAway m_bestMade m_bestFault m_isHere m_place m_reason m_wide m_high) := by
  refine CT_of (cc := cX8_passages) (maxL := 3) (ret := (some .int)) 2 (by decide +kernel) rfl rfl (cat_ok rfl) (fun X hX hR hN => ?_)
  have hX : Ok G X cX8_passages RX8 wsX8_passages 3 rmX8_passages := hX
  have hX8 : ∀ w ∈ wsX80, w ∈ wsX8_passages := lX8_passages_X8
  unfold mX8_passages at hm
  refine w_iconst (pc := 0) hX dX8_passages_0 ic_0 ?_
  refine w_istore_n (pc := 1) hX dX8_passages_1 rfl (Nat.le_of_ble_eq_true rfl) ?_
  refine w_iconst (pc := 2) hX dX8_passages_2 ic_0 ?_
  refine w_istore_n (pc := 3) hX dX8_passages_3 rfl (Nat.le_of_ble_eq_true rfl) ?_
  refine w_lvs [true, true, true] ?_
  refine lpr_ind (T := fun x1 : (Int32 × Int32) => WW G X 0 0 (wX8 G a_t m_s m_begun m_kept m_isKept m_past m_states m_text m_length m_far m_queue m_isOn m_steps m_wayCells m_turns m_visits m_wasSo m_bestAway m_bestMade m_bestFault m_isHere m_place m_reason m_wide m_high) [some (.ref (a_t 0)), some (.int x1.1), some (.int x1.2)] 4 []) (fun self2 hself2 x1 hm => ?_) F ((0 : Int32), (0 : Int32)) hm
  unfold mX8_passages_L4 at hm
  refine w_iload_n (pc := 4) hX dX8_passages_4 rfl rfl ?_
  refine w_iconst (pc := 5) hX dX8_passages_5 ic_2 ?_
  refine w_aload_n (pc := 6) hX dX8_passages_6 rfl rfl ?_
  obtain ⟨r3, hr3, hm⟩ := bnd hm
  refine w_callpi (pc := 7) hX [0, 1, 2, 3, 4, 5, 6, 7, 8, 9, 10, 11, 12] (runV (rest := [.int (2 : Int32), .int x1.2]) hX [0, 1, 2, 3, 4, 5, 6, 7, 8, 9, 10, 11, 12] (ctX8_cells G a_t m_s m_begun m_kept m_isKept m_past m_states m_text m_length m_far m_queue m_isOn m_steps m_wayCells m_turns m_visits m_wasSo m_bestAway m_bestMade m_bestFault m_isHere m_place m_reason m_wide m_high r3 hr3) dX8_passages_7 0 gX8_passages_X8_cells rfl hyX8_cells ⟨Nat.le_of_ble_eq_true rfl, Nat.le_of_ble_eq_true rfl⟩ 0 rfl rfl rfl rfl (Nat.le_of_ble_eq_true rfl) ⟨Nat.le_of_ble_eq_true rfl, Nat.le_of_ble_eq_true rfl⟩ rfl rfl) rfl ⟨rfl, rfl⟩ ?_
  refine w_imul (pc := 10) hX dX8_passages_10 ?_
  refine w_icmp_ge (pc := 11) (tgt := 32) hX dX8_passages_11 (by decide) hm (fun hm => ?_) (fun hm => ?_)
  ·
    refine w_iload_n (pc := 32) hX dX8_passages_32 rfl rfl ?_
    obtain rfl := som hm
    exact w_iret (pc := 33) hX hR dX8_passages_33 ⟨rfl, rfl⟩
  ·
    refine w_iload_n (pc := 14) hX dX8_passages_14 rfl rfl ?_
    refine w_aload_n (pc := 15) hX dX8_passages_15 rfl rfl ?_
    refine gf_X8_s (pc := 16) hX dX8_passages_16 hX8 (List.mem_of_getElem? (i := 1) rfl) 0 rfl rfl ?_
    refine w_bipush (pc := 19) hX dX8_passages_19 bp_42 ?_
    refine w_iload_n (pc := 21) hX dX8_passages_21 rfl rfl ?_
    refine w_iadd (pc := 22) hX dX8_passages_22 ?_
    refine w_iald (pc := 23) hX dX8_passages_23 1 rfl hm (fun hm => ?_)
    refine w_iadd (pc := 24) hX dX8_passages_24 ?_
    refine w_istore_n (pc := 25) hX dX8_passages_25 rfl (Nat.le_of_ble_eq_true rfl) ?_
    refine w_iinc (pc := 26) hX dX8_passages_26 rfl (Nat.le_of_ble_eq_true rfl) ic_1 ?_
    refine w_goto (pc := 29) (tgt := 4) hX dX8_passages_29 (by decide) ?_
    exact w_lvs [true, true, true] (hself2 (x1.1 + (m_s ((42 : Int32) + x1.2).toNatClampNeg), x1.2 + (1 : Int32)) hm)

set_option maxHeartbeats 4000000 in
set_option maxRecDepth 100000 in
theorem ctX8_parts (G : gT) (F : Nat) (a_t : Nat → Nat) (m_s : nF) (m_begun : nF) (m_kept : nF) (m_isKept : Int32) (m_past : nF) (m_states : Int32) (m_text : nF) (m_length : Int32) (m_far : nF) (m_queue : nF) (m_isOn : nF) (m_steps : nF) (m_wayCells : Int32) (m_turns : Int32) (m_visits : nF) (m_wasSo : nF) (m_bestAway : Int32) (m_bestMade : Int32) (m_bestFault : Int32) (m_isHere : nF) (m_place : Int32) (m_reason : Int32) (m_wide : Int32) (m_high : Int32) (o : Int32) (hm : mX8_parts F m_s = some o) : CT G yX8_parts wsX8_parts rmX8_parts [.ref (a_t 0)] (wX8 G a_t m_s m_begun m_kept m_isKept m_past m_states m_text m_length m_far m_queue m_isOn m_steps m_wayCells m_turns m_visits m_wasSo m_bestAway m_bestMade m_bestFault m_isHere m_place m_reason m_wide m_high) (fun v w => v = some (.int o) ∧ w = wX8 G a_t m_s m_begun m_kept m_isKept m_past m_states m_text m_length m_far m_queue m_isOn m_steps m_wayCells m_turns m_visits m_wasSo m_bestAway m_bestMade m_bestFault m_isHere m_place m_reason m_wide m_high) := by
  refine CT_of (cc := cX8_parts) (maxL := 1) (ret := (some .int)) 0 (by decide +kernel) rfl rfl (cat_ok rfl) (fun X hX hR hN => ?_)
  have hX : Ok G X cX8_parts RX8 wsX8_parts 1 rmX8_parts := hX
  unfold mX8_parts at hm
  refine w_aload_n (pc := 0) hX dX8_parts_0 rfl rfl ?_
  obtain ⟨r1, hr1, hm⟩ := bnd hm
  refine w_callpi (pc := 1) hX [0, 1, 2, 3, 4, 5, 6, 7, 8, 9, 10, 11, 12] (runV (rest := []) hX [0, 1, 2, 3, 4, 5, 6, 7, 8, 9, 10, 11, 12] (ctX8_cells G a_t m_s m_begun m_kept m_isKept m_past m_states m_text m_length m_far m_queue m_isOn m_steps m_wayCells m_turns m_visits m_wasSo m_bestAway m_bestMade m_bestFault m_isHere m_place m_reason m_wide m_high r1 hr1) dX8_parts_1 0 gX8_parts_X8_cells rfl hyX8_cells ⟨Nat.le_of_ble_eq_true rfl, Nat.le_of_ble_eq_true rfl⟩ 0 rfl rfl rfl rfl (Nat.le_of_ble_eq_true rfl) ⟨Nat.le_of_ble_eq_true rfl, Nat.le_of_ble_eq_true rfl⟩ rfl rfl) rfl ⟨rfl, rfl⟩ ?_
  refine w_aload_n (pc := 4) hX dX8_parts_4 rfl rfl ?_
  obtain ⟨r2, hr2, hm⟩ := bnd hm
  refine w_callpi (pc := 5) hX [0, 1, 2, 3, 4, 5, 6, 7, 8, 9, 10, 11, 12] (runV (rest := [.int r1]) hX [0, 1, 2, 3, 4, 5, 6, 7, 8, 9, 10, 11, 12] (ctX8_passages G F a_t m_s m_begun m_kept m_isKept m_past m_states m_text m_length m_far m_queue m_isOn m_steps m_wayCells m_turns m_visits m_wasSo m_bestAway m_bestMade m_bestFault m_isHere m_place m_reason m_wide m_high r2 hr2) dX8_parts_5 0 gX8_parts_X8_passages rfl hyX8_passages ⟨Nat.le_of_ble_eq_true rfl, Nat.le_of_ble_eq_true rfl⟩ 0 rfl rfl rfl rfl (Nat.le_of_ble_eq_true rfl) ⟨Nat.le_of_ble_eq_true rfl, Nat.le_of_ble_eq_true rfl⟩ rfl rfl) rfl ⟨rfl, rfl⟩ ?_
  refine w_isub (pc := 8) hX dX8_parts_8 ?_
  obtain rfl := som hm
  exact w_iret (pc := 9) hX hR dX8_parts_9 ⟨rfl, rfl⟩

set_option maxHeartbeats 4000000 in
set_option maxRecDepth 100000 in
theorem ctX8_isWhole (G : gT) (F : Nat) (a_t : Nat → Nat) (m_s : nF) (m_begun : nF) (m_kept : nF) (m_isKept : Int32) (m_past : nF) (m_states : Int32) (m_text : nF) (m_length : Int32) (m_far : nF) (m_queue : nF) (m_isOn : nF) (m_steps : nF) (m_wayCells : Int32) (m_turns : Int32) (m_visits : nF) (m_wasSo : nF) (m_bestAway : Int32) (m_bestMade : Int32) (m_bestFault : Int32) (m_isHere : nF) (m_place : Int32) (m_reason : Int32) (m_wide : Int32) (m_high : Int32) (o : Int32) (hm : mX8_isWhole F m_s = some o) : CT G yX8_isWhole wsX8_isWhole rmX8_isWhole [.ref (a_t 0)] (wX8 G a_t m_s m_begun m_kept m_isKept m_past m_states m_text m_length m_far m_queue m_isOn m_steps m_wayCells m_turns m_visits m_wasSo m_bestAway m_bestMade m_bestFault m_isHere m_place m_reason m_wide m_high) (fun v w => v = some (.int o) ∧ w = wX8 G a_t m_s m_begun m_kept m_isKept m_past m_states m_text m_length m_far m_queue m_isOn m_steps m_wayCells m_turns m_visits m_wasSo m_bestAway m_bestMade m_bestFault m_isHere m_place m_reason m_wide m_high) := by
  refine CT_of (cc := cX8_isWhole) (maxL := 1) (ret := (some .boolean)) 0 (by decide +kernel) rfl rfl (cat_ok rfl) (fun X hX hR hN => ?_)
  have hX : Ok G X cX8_isWhole RX8 wsX8_isWhole 1 rmX8_isWhole := hX
  unfold mX8_isWhole at hm
  refine w_aload_n (pc := 0) hX dX8_isWhole_0 rfl rfl ?_
  obtain ⟨r1, hr1, hm⟩ := bnd hm
  refine w_callpi (pc := 1) hX [0, 1, 2, 3, 4, 5, 6, 7, 8, 9, 10, 11, 12] (runV (rest := []) hX [0, 1, 2, 3, 4, 5, 6, 7, 8, 9, 10, 11, 12] (ctX8_parts G F a_t m_s m_begun m_kept m_isKept m_past m_states m_text m_length m_far m_queue m_isOn m_steps m_wayCells m_turns m_visits m_wasSo m_bestAway m_bestMade m_bestFault m_isHere m_place m_reason m_wide m_high r1 hr1) dX8_isWhole_1 0 gX8_isWhole_X8_parts rfl hyX8_parts ⟨Nat.le_of_ble_eq_true rfl, Nat.le_of_ble_eq_true rfl⟩ 0 rfl rfl rfl rfl (Nat.le_of_ble_eq_true rfl) ⟨Nat.le_of_ble_eq_true rfl, Nat.le_of_ble_eq_true rfl⟩ rfl rfl) rfl ⟨rfl, rfl⟩ ?_
  refine w_iconst (pc := 4) hX dX8_isWhole_4 ic_1 ?_
  refine w_jn (T := fun x2 : Int32 => WW G X 0 0 (wX8 G a_t m_s m_begun m_kept m_isKept m_past m_states m_text m_length m_far m_queue m_isOn m_steps m_wayCells m_turns m_visits m_wasSo m_bestAway m_bestMade m_bestFault m_isHere m_place m_reason m_wide m_high) [none] 13 [.int x2]) hm (fun x2 hm => ?_) (fun j3 hj3 hm => ?_)
  ·
    refine w_zret (pc := 13) hX hR dX8_isWhole_13 hm (fun hm => ?_)
    obtain rfl := som hm
    exact ⟨rfl, rfl⟩
  ·
    refine w_icmp_ne (pc := 5) (tgt := 12) hX dX8_isWhole_5 (by decide) hm (fun hm => ?_) (fun hm => ?_)
    ·
      refine w_iconst (pc := 12) hX dX8_isWhole_12 ic_0 ?_
      exact w_lvs [false] (hj3 (0 : Int32) hm)
    ·
      refine w_iconst (pc := 8) hX dX8_isWhole_8 ic_1 ?_
      refine w_goto (pc := 9) (tgt := 13) hX dX8_isWhole_9 (by decide) ?_
      exact w_lvs [false] (hj3 (1 : Int32) hm)

theorem lX8_findsWay_X8 : ∀ w ∈ wsX80, w ∈ wsX8_findsWay := in_at [29, 30, 31, 32, 33, 34, 35, 36, 37, 38, 39, 40, 41, 42, 43, 44, 45, 46, 47, 48, 49, 50, 51, 52] (by decide +kernel)
set_option maxHeartbeats 4000000 in
set_option maxRecDepth 100000 in
theorem ctX8_findsWay (G : gT) (F : Nat) (a_t : Nat → Nat) (m_s : nF) (m_begun : nF) (m_kept : nF) (m_isKept : Int32) (m_past : nF) (m_states : Int32) (m_text : nF) (m_length : Int32) (m_far : nF) (m_queue : nF) (m_isOn : nF) (m_steps : nF) (m_wayCells : Int32) (m_turns : Int32) (m_visits : nF) (m_wasSo : nF) (m_bestAway : Int32) (m_bestMade : Int32) (m_bestFault : Int32) (m_isHere : nF) (m_place : Int32) (m_reason : Int32) (m_wide : Int32) (m_high : Int32) (g1 : Int32) (o : (Int32 × nF × nF × nF × nF × Int32 × Int32)) (hm : mX8_findsWay F m_s m_far m_queue m_isOn m_steps m_wayCells m_turns g1 = some o) : CT G yX8_findsWay wsX8_findsWay rmX8_findsWay [.ref (a_t 0), .int g1] (wX8 G a_t m_s m_begun m_kept m_isKept m_past m_states m_text m_length m_far m_queue m_isOn m_steps m_wayCells m_turns m_visits m_wasSo m_bestAway m_bestMade m_bestFault m_isHere m_place m_reason m_wide m_high) (fun v w => v = some (.int o.1) ∧ w = wX8 G a_t m_s m_begun m_kept m_isKept m_past m_states m_text m_length o.2.1 o.2.2.1 o.2.2.2.1 o.2.2.2.2.1 o.2.2.2.2.2.1 o.2.2.2.2.2.2 m_visits m_wasSo m_bestAway m_bestMade m_bestFault m_isHere m_place m_reason m_wide m_high) := by
  refine CT_of (cc := cX8_findsWay) (maxL := 6) (ret := (some .boolean)) 4 (by decide +kernel) rfl rfl (cat_ok rfl) (fun X hX hR hN => ?_)
  have hX : Ok G X cX8_findsWay RX8 wsX8_findsWay 6 rmX8_findsWay := hX
  have hX8 : ∀ w ∈ wsX80, w ∈ wsX8_findsWay := lX8_findsWay_X8
  unfold mX8_findsWay at hm
  refine w_iconst (pc := 0) hX dX8_findsWay_0 ic_0 ?_
  refine w_istore_n (pc := 1) hX dX8_findsWay_1 rfl (Nat.le_of_ble_eq_true rfl) ?_
  refine w_jn (T := fun x1 : nF => WW G X 0 0 (wX8 G a_t m_s m_begun m_kept m_isKept m_past m_states m_text m_length m_far m_queue x1 m_steps m_wayCells m_turns m_visits m_wasSo m_bestAway m_bestMade m_bestFault m_isHere m_place m_reason m_wide m_high) [some (.ref (a_t 0)), some (.int g1), none, none, none, none] 23 []) hm (fun x1 hm => ?_) (fun j2 hj2 hm => ?_)
  ·
    unfold mX8_findsWay_K23 at hm
    refine w_aload_n (pc := 23) hX dX8_findsWay_23 rfl rfl ?_
    refine w_iconst (pc := 24) hX dX8_findsWay_24 ic_0 ?_
    refine pf_X8_wayCells (pc := 25) hX dX8_findsWay_25 hX8 (List.mem_of_getElem? (i := 2) rfl) 0 rfl rfl ?_
    refine w_aload_n (pc := 28) hX dX8_findsWay_28 rfl rfl ?_
    refine w_iconst (pc := 29) hX dX8_findsWay_29 ic_0 ?_
    refine pf_X8_turns (pc := 30) hX dX8_findsWay_30 hX8 (List.mem_of_getElem? (i := 3) rfl) 0 rfl rfl ?_
    refine w_aload_n (pc := 33) hX dX8_findsWay_33 rfl rfl ?_
    refine w_iload_n (pc := 34) hX dX8_findsWay_34 rfl rfl ?_
    obtain ⟨r3, hr3, hm⟩ := bnd hm
    refine w_calldv (pc := 35) (ws' := wX8 G a_t m_s m_begun m_kept m_isKept m_past m_states m_text m_length r3.1 r3.2 x1 m_steps (0 : Int32) (0 : Int32) m_visits m_wasSo m_bestAway m_bestMade m_bestFault m_isHere m_place m_reason m_wide m_high) hX [0, 1, 2, 3, 4, 5, 6, 7, 8, 9, 10, 11, 12] (runV (rest := []) hX [0, 1, 2, 3, 4, 5, 6, 7, 8, 9, 10, 11, 12] (ctX8_measures G F a_t m_s m_begun m_kept m_isKept m_past m_states m_text m_length m_far m_queue x1 m_steps (0 : Int32) (0 : Int32) m_visits m_wasSo m_bestAway m_bestMade m_bestFault m_isHere m_place m_reason m_wide m_high g1 r3 hr3) dX8_findsWay_35 1 gX8_findsWay_X8_measures rfl hyX8_measures ⟨Nat.le_of_ble_eq_true rfl, Nat.le_of_ble_eq_true rfl⟩ 0 rfl rfl rfl rfl (Nat.le_of_ble_eq_true rfl) ⟨Nat.le_of_ble_eq_true rfl, Nat.le_of_ble_eq_true rfl⟩ rfl rfl) rfl rfl rfl ⟨rfl, rfl⟩ ?_
    refine w_aload_n (pc := 38) hX dX8_findsWay_38 rfl rfl ?_
    refine gf_X8_s (pc := 39) hX dX8_findsWay_39 hX8 (List.mem_of_getElem? (i := 4) rfl) 0 rfl rfl ?_
    refine w_iconst (pc := 42) hX dX8_findsWay_42 ic_2 ?_
    refine w_iald (pc := 43) hX dX8_findsWay_43 1 rfl hm (fun hm => ?_)
    refine w_istore_n (pc := 44) hX dX8_findsWay_44 rfl (Nat.le_of_ble_eq_true rfl) ?_
    refine w_aload_n (pc := 45) hX dX8_findsWay_45 rfl rfl ?_
    refine gf_X8_far (pc := 46) hX dX8_findsWay_46 hX8 (List.mem_of_getElem? (i := 5) rfl) 0 rfl rfl ?_
    refine w_iload_n (pc := 49) hX dX8_findsWay_49 rfl rfl ?_
    refine w_iald (pc := 50) hX dX8_findsWay_50 6 rfl hm (fun hm => ?_)
    refine w_if_ge (pc := 51) (tgt := 56) hX dX8_findsWay_51 (by decide) hm (fun hm => ?_) (fun hm => ?_)
    ·
      refine w_iconst (pc := 56) hX dX8_findsWay_56 ic_m1 ?_
      refine w_istore_n (pc := 57) hX dX8_findsWay_57 rfl (Nat.le_of_ble_eq_true rfl) ?_
      refine w_aload_n (pc := 58) hX dX8_findsWay_58 rfl rfl ?_
      refine gf_X8_isOn (pc := 59) hX dX8_findsWay_59 hX8 (List.mem_of_getElem? (i := 1) rfl) 0 rfl rfl ?_
      refine w_iload_n (pc := 62) hX dX8_findsWay_62 rfl rfl ?_
      refine w_iconst (pc := 63) hX dX8_findsWay_63 ic_1 ?_
      refine w_zast (pc := 64) hX dX8_findsWay_64 8 rfl hm (fun hm => ?_)
      refine w_aload_n (pc := 65) hX dX8_findsWay_65 rfl rfl ?_
      refine gf_X8_steps (pc := 66) hX dX8_findsWay_66 hX8 (List.mem_of_getElem? (i := 6) rfl) 0 rfl rfl ?_
      refine w_iconst (pc := 69) hX dX8_findsWay_69 ic_0 ?_
      refine w_iload_n (pc := 70) hX dX8_findsWay_70 rfl rfl ?_
      refine w_iast (pc := 71) hX dX8_findsWay_71 9 rfl hm (fun hm => ?_)
      refine w_aload_n (pc := 72) hX dX8_findsWay_72 rfl rfl ?_
      refine w_iconst (pc := 73) hX dX8_findsWay_73 ic_1 ?_
      refine pf_X8_wayCells (pc := 74) hX dX8_findsWay_74 hX8 (List.mem_of_getElem? (i := 2) rfl) 0 rfl rfl ?_
      refine w_lvs [true, false, true, true, false, false] ?_
      refine lpr_ind (T := fun x4 : (Int32 × Int32 × nF × nF × Int32 × Int32) => WW G X 0 0 (wX8 G a_t m_s m_begun m_kept m_isKept m_past m_states m_text m_length r3.1 r3.2 x4.2.2.1 x4.2.2.2.1 x4.2.2.2.2.1 x4.2.2.2.2.2 m_visits m_wasSo m_bestAway m_bestMade m_bestFault m_isHere m_place m_reason m_wide m_high) [some (.ref (a_t 0)), none, some (.int x4.1), some (.int x4.2.1), none, none] 77 []) (fun self5 hself5 x4 hm => ?_) F (m_s (2 : Int32).toNatClampNeg, (-1 : Int32), (upd x1 (m_s (2 : Int32).toNatClampNeg).toNatClampNeg (vp_nar .boolean (1 : Int32))), (upd m_steps (0 : Int32).toNatClampNeg (m_s (2 : Int32).toNatClampNeg)), (1 : Int32), (0 : Int32)) hm
      unfold mX8_findsWay_L77 at hm
      refine w_aload_n (pc := 77) hX dX8_findsWay_77 rfl rfl ?_
      refine gf_X8_far (pc := 78) hX dX8_findsWay_78 hX8 (List.mem_of_getElem? (i := 5) rfl) 0 rfl rfl ?_
      refine w_iload_n (pc := 81) hX dX8_findsWay_81 rfl rfl ?_
      refine w_iald (pc := 82) hX dX8_findsWay_82 6 rfl hm (fun hm => ?_)
      refine w_if_le (pc := 83) (tgt := 211) hX dX8_findsWay_83 (by decide) hm (fun hm => ?_) (fun hm => ?_)
      ·
        refine w_iconst (pc := 211) hX dX8_findsWay_211 ic_1 ?_
        refine w_zret (pc := 212) hX hR dX8_findsWay_212 hm (fun hm => ?_)
        obtain rfl := som hm
        exact ⟨rfl, rfl⟩
      ·
        refine w_iconst (pc := 86) hX dX8_findsWay_86 ic_m1 ?_
        refine w_istore (pc := 87) hX dX8_findsWay_87 (Nat.le_of_ble_eq_true rfl) ?_
        refine w_iconst (pc := 89) hX dX8_findsWay_89 ic_0 ?_
        refine w_istore (pc := 90) hX dX8_findsWay_90 (Nat.le_of_ble_eq_true rfl) ?_
        refine w_jn (T := fun x6 : Int32 => WW G X 0 0 (wX8 G a_t m_s m_begun m_kept m_isKept m_past m_states m_text m_length r3.1 r3.2 x4.2.2.1 x4.2.2.2.1 x4.2.2.2.2.1 x4.2.2.2.2.2 m_visits m_wasSo m_bestAway m_bestMade m_bestFault m_isHere m_place m_reason m_wide m_high) [some (.ref (a_t 0)), none, some (.int x4.1), some (.int x4.2.1), some (.int x6), none] 146 []) hm (fun x6 hm => ?_) (fun j7 hj7 hm => ?_)
        ·
          unfold mX8_findsWay_K146 at hm
          refine w_aload_n (pc := 146) hX dX8_findsWay_146 rfl rfl ?_
          refine w_dup (pc := 147) hX dX8_findsWay_147 rfl ?_
          refine gf_X8_turns (pc := 148) hX dX8_findsWay_148 hX8 (List.mem_of_getElem? (i := 3) rfl) 0 rfl rfl ?_
          refine w_iload_n (pc := 151) hX dX8_findsWay_151 rfl rfl ?_
          refine w_jn (T := fun x8 : Int32 => WW G X 0 0 (wX8 G a_t m_s m_begun m_kept m_isKept m_past m_states m_text m_length r3.1 r3.2 x4.2.2.1 x4.2.2.2.1 x4.2.2.2.2.1 x4.2.2.2.2.2 m_visits m_wasSo m_bestAway m_bestMade m_bestFault m_isHere m_place m_reason m_wide m_high) [some (.ref (a_t 0)), none, some (.int x4.1), none, some (.int x6), none] 166 [.int x8, .int x4.2.2.2.2.2, .ref (a_t 0)]) hm (fun x8 hm => ?_) (fun j9 hj9 hm => ?_)
          ·
            refine w_iadd (pc := 166) hX dX8_findsWay_166 ?_
            refine pf_X8_turns (pc := 167) hX dX8_findsWay_167 hX8 (List.mem_of_getElem? (i := 3) rfl) 0 rfl rfl ?_
            refine w_iload (pc := 170) hX dX8_findsWay_170 rfl ?_
            refine w_istore_n (pc := 172) hX dX8_findsWay_172 rfl (Nat.le_of_ble_eq_true rfl) ?_
            refine w_aload_n (pc := 173) hX dX8_findsWay_173 rfl rfl ?_
            refine w_iload_n (pc := 174) hX dX8_findsWay_174 rfl rfl ?_
            refine w_iload (pc := 175) hX dX8_findsWay_175 rfl ?_
            obtain ⟨r10, hr10, hm⟩ := bnd hm
            refine w_callpi (pc := 177) hX [0, 1, 2, 3, 4, 5, 6, 7, 8, 9, 10, 11, 12] (runV (rest := []) hX [0, 1, 2, 3, 4, 5, 6, 7, 8, 9, 10, 11, 12] (ctX8_besides G a_t m_s m_begun m_kept m_isKept m_past m_states m_text m_length r3.1 r3.2 x4.2.2.1 x4.2.2.2.1 x4.2.2.2.2.1 (x4.2.2.2.2.2 + x8) m_visits m_wasSo m_bestAway m_bestMade m_bestFault m_isHere m_place m_reason m_wide m_high x4.1 x6 r10 hr10) dX8_findsWay_177 2 gX8_findsWay_X8_besides rfl hyX8_besides ⟨Nat.le_of_ble_eq_true rfl, Nat.le_of_ble_eq_true rfl⟩ 0 rfl rfl rfl rfl (Nat.le_of_ble_eq_true rfl) ⟨Nat.le_of_ble_eq_true rfl, Nat.le_of_ble_eq_true rfl⟩ rfl rfl) rfl ⟨rfl, rfl⟩ ?_
            refine w_istore_n (pc := 180) hX dX8_findsWay_180 rfl (Nat.le_of_ble_eq_true rfl) ?_
            refine w_aload_n (pc := 181) hX dX8_findsWay_181 rfl rfl ?_
            refine gf_X8_isOn (pc := 182) hX dX8_findsWay_182 hX8 (List.mem_of_getElem? (i := 1) rfl) 0 rfl rfl ?_
            refine w_iload_n (pc := 185) hX dX8_findsWay_185 rfl rfl ?_
            refine w_iconst (pc := 186) hX dX8_findsWay_186 ic_1 ?_
            refine w_zast (pc := 187) hX dX8_findsWay_187 8 rfl hm (fun hm => ?_)
            refine w_aload_n (pc := 188) hX dX8_findsWay_188 rfl rfl ?_
            refine gf_X8_steps (pc := 189) hX dX8_findsWay_189 hX8 (List.mem_of_getElem? (i := 6) rfl) 0 rfl rfl ?_
            refine w_aload_n (pc := 192) hX dX8_findsWay_192 rfl rfl ?_
            refine gf_X8_wayCells (pc := 193) hX dX8_findsWay_193 hX8 (List.mem_of_getElem? (i := 2) rfl) 0 rfl rfl ?_
            refine w_iload_n (pc := 196) hX dX8_findsWay_196 rfl rfl ?_
            refine w_iast (pc := 197) hX dX8_findsWay_197 9 rfl hm (fun hm => ?_)
            refine w_aload_n (pc := 198) hX dX8_findsWay_198 rfl rfl ?_
            refine w_dup (pc := 199) hX dX8_findsWay_199 rfl ?_
            refine gf_X8_wayCells (pc := 200) hX dX8_findsWay_200 hX8 (List.mem_of_getElem? (i := 2) rfl) 0 rfl rfl ?_
            refine w_iconst (pc := 203) hX dX8_findsWay_203 ic_1 ?_
            refine w_iadd (pc := 204) hX dX8_findsWay_204 ?_
            refine pf_X8_wayCells (pc := 205) hX dX8_findsWay_205 hX8 (List.mem_of_getElem? (i := 2) rfl) 0 rfl rfl ?_
            refine w_goto (pc := 208) (tgt := 77) hX dX8_findsWay_208 (by decide) ?_
            exact w_lvs [true, false, true, true, false, false] (hself5 (r10, x6, (upd x4.2.2.1 r10.toNatClampNeg (vp_nar .boolean (1 : Int32))), (upd x4.2.2.2.1 x4.2.2.2.2.1.toNatClampNeg r10), x4.2.2.2.2.1 + (1 : Int32), x4.2.2.2.2.2 + x8) hm)
          ·
            refine w_jn (T := fun x11 : Unit => WW G X 0 0 (wX8 G a_t m_s m_begun m_kept m_isKept m_past m_states m_text m_length r3.1 r3.2 x4.2.2.1 x4.2.2.2.1 x4.2.2.2.2.1 x4.2.2.2.2.2 m_visits m_wasSo m_bestAway m_bestMade m_bestFault m_isHere m_place m_reason m_wide m_high) [some (.ref (a_t 0)), none, some (.int x4.1), none, some (.int x6), none] 165 [.int x4.2.2.2.2.2, .ref (a_t 0)]) hm (fun x11 hm => ?_) (fun j12 hj12 hm => ?_)
            ·
              refine w_iconst (pc := 165) hX dX8_findsWay_165 ic_0 ?_
              exact w_lvs [true, false, true, false, true, false] (hj9 (0 : Int32) hm)
            ·
              refine w_if_lt (pc := 152) (tgt := 165) hX dX8_findsWay_152 (by decide) hm (fun hm => ?_) (fun hm => ?_)
              ·
                exact w_lvs [true, false, true, false, true, false] (hj12 () hm)
              ·
                refine w_iload (pc := 155) hX dX8_findsWay_155 rfl ?_
                refine w_iload_n (pc := 157) hX dX8_findsWay_157 rfl rfl ?_
                refine w_icmp_eq (pc := 158) (tgt := 165) hX dX8_findsWay_158 (by decide) hm (fun hm => ?_) (fun hm => ?_)
                ·
                  exact w_lvs [true, false, true, false, true, false] (hj12 () hm)
                ·
                  refine w_iconst (pc := 161) hX dX8_findsWay_161 ic_1 ?_
                  refine w_goto (pc := 162) (tgt := 166) hX dX8_findsWay_162 (by decide) ?_
                  exact w_lvs [true, false, true, false, true, false] (hj9 (1 : Int32) hm)
        ·
          refine w_lvs [true, false, true, true, true, true] ?_
          refine lpr_ind (T := fun x13 : (Int32 × Int32) => WW G X 0 0 (wX8 G a_t m_s m_begun m_kept m_isKept m_past m_states m_text m_length r3.1 r3.2 x4.2.2.1 x4.2.2.2.1 x4.2.2.2.2.1 x4.2.2.2.2.2 m_visits m_wasSo m_bestAway m_bestMade m_bestFault m_isHere m_place m_reason m_wide m_high) [some (.ref (a_t 0)), none, some (.int x4.1), some (.int x4.2.1), some (.int x13.1), some (.int x13.2)] 92 []) (fun self14 hself14 x13 hm => ?_) F ((-1 : Int32), (0 : Int32)) hm
          unfold mX8_findsWay_L92 at hm
          refine w_iload (pc := 92) hX dX8_findsWay_92 rfl ?_
          refine w_iconst (pc := 94) hX dX8_findsWay_94 ic_4 ?_
          refine w_icmp_ge (pc := 95) (tgt := 146) hX dX8_findsWay_95 (by decide) hm (fun hm => ?_) (fun hm => ?_)
          ·
            exact w_lvs [true, false, true, true, true, false] (hj7 x13.1 hm)
          ·
            refine w_aload_n (pc := 98) hX dX8_findsWay_98 rfl rfl ?_
            refine w_iload_n (pc := 99) hX dX8_findsWay_99 rfl rfl ?_
            refine w_iload (pc := 100) hX dX8_findsWay_100 rfl ?_
            obtain ⟨r15, hr15, hm⟩ := bnd hm
            refine w_callpi (pc := 102) hX [0, 1, 2, 3, 4, 5, 6, 7, 8, 9, 10, 11, 12] (runV (rest := []) hX [0, 1, 2, 3, 4, 5, 6, 7, 8, 9, 10, 11, 12] (ctX8_isOpen G a_t m_s m_begun m_kept m_isKept m_past m_states m_text m_length r3.1 r3.2 x4.2.2.1 x4.2.2.2.1 x4.2.2.2.2.1 x4.2.2.2.2.2 m_visits m_wasSo m_bestAway m_bestMade m_bestFault m_isHere m_place m_reason m_wide m_high x4.1 x13.2 r15 hr15) dX8_findsWay_102 2 gX8_findsWay_X8_isOpen rfl hyX8_isOpen ⟨Nat.le_of_ble_eq_true rfl, Nat.le_of_ble_eq_true rfl⟩ 0 rfl rfl rfl rfl (Nat.le_of_ble_eq_true rfl) ⟨Nat.le_of_ble_eq_true rfl, Nat.le_of_ble_eq_true rfl⟩ rfl rfl) rfl ⟨rfl, rfl⟩ ?_
            refine w_jn (T := fun x16 : Int32 => WW G X 0 0 (wX8 G a_t m_s m_begun m_kept m_isKept m_past m_states m_text m_length r3.1 r3.2 x4.2.2.1 x4.2.2.2.1 x4.2.2.2.2.1 x4.2.2.2.2.2 m_visits m_wasSo m_bestAway m_bestMade m_bestFault m_isHere m_place m_reason m_wide m_high) [some (.ref (a_t 0)), none, some (.int x4.1), some (.int x4.2.1), none, some (.int x13.2)] 138 [.int x16]) hm (fun x16 hm => ?_) (fun j17 hj17 hm => ?_)
            ·
              refine w_istore (pc := 138) hX dX8_findsWay_138 (Nat.le_of_ble_eq_true rfl) ?_
              refine w_iinc (pc := 140) hX dX8_findsWay_140 rfl (Nat.le_of_ble_eq_true rfl) ic_1 ?_
              refine w_goto (pc := 143) (tgt := 92) hX dX8_findsWay_143 (by decide) ?_
              exact w_lvs [true, false, true, true, true, true] (hself14 (x16, x13.2 + (1 : Int32)) hm)
            ·
              refine w_jn (T := fun x18 : Unit => WW G X 0 0 (wX8 G a_t m_s m_begun m_kept m_isKept m_past m_states m_text m_length r3.1 r3.2 x4.2.2.1 x4.2.2.2.1 x4.2.2.2.2.1 x4.2.2.2.2.2 m_visits m_wasSo m_bestAway m_bestMade m_bestFault m_isHere m_place m_reason m_wide m_high) [some (.ref (a_t 0)), none, some (.int x4.1), some (.int x4.2.1), some (.int x13.1), some (.int x13.2)] 136 []) hm (fun x18 hm => ?_) (fun j19 hj19 hm => ?_)
              ·
                refine w_iload (pc := 136) hX dX8_findsWay_136 rfl ?_
                exact w_lvs [true, false, true, true, false, true] (hj17 x13.1 hm)
              ·
                refine w_if_eq (pc := 105) (tgt := 136) hX dX8_findsWay_105 (by decide) hm (fun hm => ?_) (fun hm => ?_)
                ·
                  exact w_lvs [true, false, true, true, true, true] (hj19 () hm)
                ·
                  refine w_aload_n (pc := 108) hX dX8_findsWay_108 rfl rfl ?_
                  refine gf_X8_far (pc := 109) hX dX8_findsWay_109 hX8 (List.mem_of_getElem? (i := 5) rfl) 0 rfl rfl ?_
                  refine w_aload_n (pc := 112) hX dX8_findsWay_112 rfl rfl ?_
                  refine w_iload_n (pc := 113) hX dX8_findsWay_113 rfl rfl ?_
                  refine w_iload (pc := 114) hX dX8_findsWay_114 rfl ?_
                  obtain ⟨r20, hr20, hm⟩ := bnd hm
                  refine w_callpi (pc := 116) hX [0, 1, 2, 3, 4, 5, 6, 7, 8, 9, 10, 11, 12] (runV (rest := [.ref (a_t 6)]) hX [0, 1, 2, 3, 4, 5, 6, 7, 8, 9, 10, 11, 12] (ctX8_besides G a_t m_s m_begun m_kept m_isKept m_past m_states m_text m_length r3.1 r3.2 x4.2.2.1 x4.2.2.2.1 x4.2.2.2.2.1 x4.2.2.2.2.2 m_visits m_wasSo m_bestAway m_bestMade m_bestFault m_isHere m_place m_reason m_wide m_high x4.1 x13.2 r20 hr20) dX8_findsWay_116 2 gX8_findsWay_X8_besides rfl hyX8_besides ⟨Nat.le_of_ble_eq_true rfl, Nat.le_of_ble_eq_true rfl⟩ 0 rfl rfl rfl rfl (Nat.le_of_ble_eq_true rfl) ⟨Nat.le_of_ble_eq_true rfl, Nat.le_of_ble_eq_true rfl⟩ rfl rfl) rfl ⟨rfl, rfl⟩ ?_
                  refine w_iald (pc := 119) hX dX8_findsWay_119 6 rfl hm (fun hm => ?_)
                  refine w_aload_n (pc := 120) hX dX8_findsWay_120 rfl rfl ?_
                  refine gf_X8_far (pc := 121) hX dX8_findsWay_121 hX8 (List.mem_of_getElem? (i := 5) rfl) 0 rfl rfl ?_
                  refine w_iload_n (pc := 124) hX dX8_findsWay_124 rfl rfl ?_
                  refine w_iald (pc := 125) hX dX8_findsWay_125 6 rfl hm (fun hm => ?_)
                  refine w_iconst (pc := 126) hX dX8_findsWay_126 ic_1 ?_
                  refine w_isub (pc := 127) hX dX8_findsWay_127 ?_
                  refine w_icmp_ne (pc := 128) (tgt := 136) hX dX8_findsWay_128 (by decide) hm (fun hm => ?_) (fun hm => ?_)
                  ·
                    exact w_lvs [true, false, true, true, true, true] (hj19 () hm)
                  ·
                    refine w_iload (pc := 131) hX dX8_findsWay_131 rfl ?_
                    refine w_goto (pc := 133) (tgt := 138) hX dX8_findsWay_133 (by decide) ?_
                    exact w_lvs [true, false, true, true, false, true] (hj17 x13.2 hm)
    ·
      refine w_iconst (pc := 54) hX dX8_findsWay_54 ic_0 ?_
      refine w_zret (pc := 55) hX hR dX8_findsWay_55 hm (fun hm => ?_)
      obtain rfl := som hm
      exact ⟨rfl, rfl⟩
  ·
    refine w_lvs [true, true, true, false, false, false] ?_
    refine lpr_ind (T := fun x21 : (Int32 × nF) => WW G X 0 0 (wX8 G a_t m_s m_begun m_kept m_isKept m_past m_states m_text m_length m_far m_queue x21.2 m_steps m_wayCells m_turns m_visits m_wasSo m_bestAway m_bestMade m_bestFault m_isHere m_place m_reason m_wide m_high) [some (.ref (a_t 0)), some (.int g1), some (.int x21.1), none, none, none] 2 []) (fun self22 hself22 x21 hm => ?_) F ((0 : Int32), m_isOn) hm
    unfold mX8_findsWay_L2 at hm
    refine w_iload_n (pc := 2) hX dX8_findsWay_2 rfl rfl ?_
    refine w_aload_n (pc := 3) hX dX8_findsWay_3 rfl rfl ?_
    obtain ⟨r23, hr23, hm⟩ := bnd hm
    refine w_callpi (pc := 4) hX [0, 1, 2, 3, 4, 5, 6, 7, 8, 9, 10, 11, 12] (runV (rest := [.int x21.1]) hX [0, 1, 2, 3, 4, 5, 6, 7, 8, 9, 10, 11, 12] (ctX8_cells G a_t m_s m_begun m_kept m_isKept m_past m_states m_text m_length m_far m_queue x21.2 m_steps m_wayCells m_turns m_visits m_wasSo m_bestAway m_bestMade m_bestFault m_isHere m_place m_reason m_wide m_high r23 hr23) dX8_findsWay_4 0 gX8_findsWay_X8_cells rfl hyX8_cells ⟨Nat.le_of_ble_eq_true rfl, Nat.le_of_ble_eq_true rfl⟩ 0 rfl rfl rfl rfl (Nat.le_of_ble_eq_true rfl) ⟨Nat.le_of_ble_eq_true rfl, Nat.le_of_ble_eq_true rfl⟩ rfl rfl) rfl ⟨rfl, rfl⟩ ?_
    refine w_icmp_ge (pc := 7) (tgt := 23) hX dX8_findsWay_7 (by decide) hm (fun hm => ?_) (fun hm => ?_)
    ·
      exact w_lvs [true, true, false, false, false, false] (hj2 x21.2 hm)
    ·
      refine w_aload_n (pc := 10) hX dX8_findsWay_10 rfl rfl ?_
      refine gf_X8_isOn (pc := 11) hX dX8_findsWay_11 hX8 (List.mem_of_getElem? (i := 1) rfl) 0 rfl rfl ?_
      refine w_iload_n (pc := 14) hX dX8_findsWay_14 rfl rfl ?_
      refine w_iconst (pc := 15) hX dX8_findsWay_15 ic_0 ?_
      refine w_zast (pc := 16) hX dX8_findsWay_16 8 rfl hm (fun hm => ?_)
      refine w_iinc (pc := 17) hX dX8_findsWay_17 rfl (Nat.le_of_ble_eq_true rfl) ic_1 ?_
      refine w_goto (pc := 20) (tgt := 2) hX dX8_findsWay_20 (by decide) ?_
      exact w_lvs [true, true, true, false, false, false] (hself22 (x21.1 + (1 : Int32), (upd x21.2 x21.1.toNatClampNeg (vp_nar .boolean (0 : Int32)))) hm)

theorem lX8_faultTo_X8 : ∀ w ∈ wsX80, w ∈ wsX8_faultTo := in_at [33, 34, 35, 36, 37, 38, 39, 40, 41, 42, 43, 44, 45, 46, 47, 48, 49, 50, 51, 52, 53, 54, 55, 56] (by decide +kernel)
set_option maxHeartbeats 4000000 in
set_option maxRecDepth 100000 in
theorem ctX8_faultTo (G : gT) (F : Nat) (a_t : Nat → Nat) (m_s : nF) (m_begun : nF) (m_kept : nF) (m_isKept : Int32) (m_past : nF) (m_states : Int32) (m_text : nF) (m_length : Int32) (m_far : nF) (m_queue : nF) (m_isOn : nF) (m_steps : nF) (m_wayCells : Int32) (m_turns : Int32) (m_visits : nF) (m_wasSo : nF) (m_bestAway : Int32) (m_bestMade : Int32) (m_bestFault : Int32) (m_isHere : nF) (m_place : Int32) (m_reason : Int32) (m_wide : Int32) (m_high : Int32) (g1 : Int32) (o : (Int32 × nF × nF × nF × nF × Int32 × Int32)) (hm : mX8_faultTo F m_s m_far m_queue m_isOn m_steps m_wayCells m_turns g1 = some o) : CT G yX8_faultTo wsX8_faultTo rmX8_faultTo [.ref (a_t 0), .int g1] (wX8 G a_t m_s m_begun m_kept m_isKept m_past m_states m_text m_length m_far m_queue m_isOn m_steps m_wayCells m_turns m_visits m_wasSo m_bestAway m_bestMade m_bestFault m_isHere m_place m_reason m_wide m_high) (fun v w => v = some (.int o.1) ∧ w = wX8 G a_t m_s m_begun m_kept m_isKept m_past m_states m_text m_length o.2.1 o.2.2.1 o.2.2.2.1 o.2.2.2.2.1 o.2.2.2.2.2.1 o.2.2.2.2.2.2 m_visits m_wasSo m_bestAway m_bestMade m_bestFault m_isHere m_place m_reason m_wide m_high) := by
  refine CT_of (cc := cX8_faultTo) (maxL := 5) (ret := (some .int)) 3 (by decide +kernel) rfl rfl (cat_ok rfl) (fun X hX hR hN => ?_)
  have hX : Ok G X cX8_faultTo RX8 wsX8_faultTo 5 rmX8_faultTo := hX
  have hX8 : ∀ w ∈ wsX80, w ∈ wsX8_faultTo := lX8_faultTo_X8
  unfold mX8_faultTo at hm
  refine w_aload_n (pc := 0) hX dX8_faultTo_0 rfl rfl ?_
  refine w_iload_n (pc := 1) hX dX8_faultTo_1 rfl rfl ?_
  obtain ⟨r1, hr1, hm⟩ := bnd hm
  refine w_calldi (pc := 2) (ws' := wX8 G a_t m_s m_begun m_kept m_isKept m_past m_states m_text m_length r1.2.1 r1.2.2.1 r1.2.2.2.1 r1.2.2.2.2.1 r1.2.2.2.2.2.1 r1.2.2.2.2.2.2 m_visits m_wasSo m_bestAway m_bestMade m_bestFault m_isHere m_place m_reason m_wide m_high) hX [0, 1, 2, 3, 4, 5, 6, 7, 8, 9, 10, 11, 12] (runV (rest := []) hX [0, 1, 2, 3, 4, 5, 6, 7, 8, 9, 10, 11, 12] (ctX8_findsWay G F a_t m_s m_begun m_kept m_isKept m_past m_states m_text m_length m_far m_queue m_isOn m_steps m_wayCells m_turns m_visits m_wasSo m_bestAway m_bestMade m_bestFault m_isHere m_place m_reason m_wide m_high g1 r1 hr1) dX8_faultTo_2 1 gX8_faultTo_X8_findsWay rfl hyX8_findsWay ⟨Nat.le_of_ble_eq_true rfl, Nat.le_of_ble_eq_true rfl⟩ 0 rfl rfl rfl rfl (Nat.le_of_ble_eq_true rfl) ⟨Nat.le_of_ble_eq_true rfl, Nat.le_of_ble_eq_true rfl⟩ rfl rfl) rfl rfl rfl ⟨rfl, rfl⟩ ?_
  refine w_istore_n (pc := 5) hX dX8_faultTo_5 rfl (Nat.le_of_ble_eq_true rfl) ?_
  refine w_iconst (pc := 6) hX dX8_faultTo_6 ic_0 ?_
  refine w_istore_n (pc := 7) hX dX8_faultTo_7 rfl (Nat.le_of_ble_eq_true rfl) ?_
  refine w_iconst (pc := 8) hX dX8_faultTo_8 ic_0 ?_
  refine w_istore (pc := 9) hX dX8_faultTo_9 (Nat.le_of_ble_eq_true rfl) ?_
  refine w_lvs [true, false, false, true, true] ?_
  refine lpr_ind (T := fun x2 : (Int32 × Int32) => WW G X 0 0 (wX8 G a_t m_s m_begun m_kept m_isKept m_past m_states m_text m_length r1.2.1 r1.2.2.1 r1.2.2.2.1 r1.2.2.2.2.1 r1.2.2.2.2.2.1 r1.2.2.2.2.2.2 m_visits m_wasSo m_bestAway m_bestMade m_bestFault m_isHere m_place m_reason m_wide m_high) [some (.ref (a_t 0)), none, none, some (.int x2.1), some (.int x2.2)] 11 []) (fun self3 hself3 x2 hm => ?_) F ((0 : Int32), (0 : Int32)) hm
  unfold mX8_faultTo_L11 at hm
  refine w_iload (pc := 11) hX dX8_faultTo_11 rfl ?_
  refine w_aload_n (pc := 13) hX dX8_faultTo_13 rfl rfl ?_
  obtain ⟨r4, hr4, hm⟩ := bnd hm
  refine w_callpi (pc := 14) hX [0, 1, 2, 3, 4, 5, 6, 7, 8, 9, 10, 11, 12] (runV (rest := [.int x2.2]) hX [0, 1, 2, 3, 4, 5, 6, 7, 8, 9, 10, 11, 12] (ctX8_cells G a_t m_s m_begun m_kept m_isKept m_past m_states m_text m_length r1.2.1 r1.2.2.1 r1.2.2.2.1 r1.2.2.2.2.1 r1.2.2.2.2.2.1 r1.2.2.2.2.2.2 m_visits m_wasSo m_bestAway m_bestMade m_bestFault m_isHere m_place m_reason m_wide m_high r4 hr4) dX8_faultTo_14 0 gX8_faultTo_X8_cells rfl hyX8_cells ⟨Nat.le_of_ble_eq_true rfl, Nat.le_of_ble_eq_true rfl⟩ 0 rfl rfl rfl rfl (Nat.le_of_ble_eq_true rfl) ⟨Nat.le_of_ble_eq_true rfl, Nat.le_of_ble_eq_true rfl⟩ rfl rfl) rfl ⟨rfl, rfl⟩ ?_
  refine w_icmp_ge (pc := 17) (tgt := 65) hX dX8_faultTo_17 (by decide) hm (fun hm => ?_) (fun hm => ?_)
  ·
    refine w_iload_n (pc := 65) hX dX8_faultTo_65 rfl rfl ?_
    obtain rfl := som hm
    exact w_iret (pc := 66) hX hR dX8_faultTo_66 ⟨rfl, rfl⟩
  ·
    refine w_iload_n (pc := 20) hX dX8_faultTo_20 rfl rfl ?_
    refine w_aload_n (pc := 21) hX dX8_faultTo_21 rfl rfl ?_
    refine gf_X8_isOn (pc := 22) hX dX8_faultTo_22 hX8 (List.mem_of_getElem? (i := 1) rfl) 0 rfl rfl ?_
    refine w_iload (pc := 25) hX dX8_faultTo_25 rfl ?_
    refine w_zald (pc := 27) hX dX8_faultTo_27 8 rfl hm (fun hm => ?_)
    refine w_jn (T := fun x5 : Int32 => WW G X 0 0 (wX8 G a_t m_s m_begun m_kept m_isKept m_past m_states m_text m_length r1.2.1 r1.2.2.1 r1.2.2.2.1 r1.2.2.2.2.1 r1.2.2.2.2.2.1 r1.2.2.2.2.2.2 m_visits m_wasSo m_bestAway m_bestMade m_bestFault m_isHere m_place m_reason m_wide m_high) [some (.ref (a_t 0)), none, none, none, some (.int x2.2)] 57 [.int x5, .int x2.1]) hm (fun x5 hm => ?_) (fun j6 hj6 hm => ?_)
    ·
      refine w_iadd (pc := 57) hX dX8_faultTo_57 ?_
      refine w_istore_n (pc := 58) hX dX8_faultTo_58 rfl (Nat.le_of_ble_eq_true rfl) ?_
      refine w_iinc (pc := 59) hX dX8_faultTo_59 rfl (Nat.le_of_ble_eq_true rfl) ic_1 ?_
      refine w_goto (pc := 62) (tgt := 11) hX dX8_faultTo_62 (by decide) ?_
      exact w_lvs [true, false, false, true, true] (hself3 (x2.1 + x5, x2.2 + (1 : Int32)) hm)
    ·
      refine w_if_eq (pc := 28) (tgt := 47) hX dX8_faultTo_28 (by decide) hm (fun hm => ?_) (fun hm => ?_)
      ·
        refine w_aload_n (pc := 47) hX dX8_faultTo_47 rfl rfl ?_
        refine gf_X8_s (pc := 48) hX dX8_faultTo_48 hX8 (List.mem_of_getElem? (i := 2) rfl) 0 rfl rfl ?_
        refine w_bipush (pc := 51) hX dX8_faultTo_51 bp_6 ?_
        refine w_iload (pc := 53) hX dX8_faultTo_53 rfl ?_
        refine w_iadd (pc := 55) hX dX8_faultTo_55 ?_
        refine w_iald (pc := 56) hX dX8_faultTo_56 1 rfl hm (fun hm => ?_)
        exact w_lvs [true, false, false, false, true] (hj6 (m_s ((6 : Int32) + x2.2).toNatClampNeg) hm)
      ·
        refine w_bipush (pc := 31) hX dX8_faultTo_31 bp_9 ?_
        refine w_aload_n (pc := 33) hX dX8_faultTo_33 rfl rfl ?_
        refine gf_X8_s (pc := 34) hX dX8_faultTo_34 hX8 (List.mem_of_getElem? (i := 2) rfl) 0 rfl rfl ?_
        refine w_bipush (pc := 37) hX dX8_faultTo_37 bp_6 ?_
        refine w_iload (pc := 39) hX dX8_faultTo_39 rfl ?_
        refine w_iadd (pc := 41) hX dX8_faultTo_41 ?_
        refine w_iald (pc := 42) hX dX8_faultTo_42 1 rfl hm (fun hm => ?_)
        refine w_isub (pc := 43) hX dX8_faultTo_43 ?_
        refine w_goto (pc := 44) (tgt := 57) hX dX8_faultTo_44 (by decide) ?_
        exact w_lvs [true, false, false, false, true] (hj6 ((9 : Int32) - (m_s ((6 : Int32) + x2.2).toNatClampNeg)) hm)

theorem lX8_wayFault_X8 : ∀ w ∈ wsX80, w ∈ wsX8_wayFault := in_at [37, 38, 39, 40, 41, 42, 43, 44, 45, 46, 47, 48, 49, 50, 51, 52, 53, 54, 55, 56, 57, 58, 59, 60] (by decide +kernel)
set_option maxHeartbeats 4000000 in
set_option maxRecDepth 100000 in
theorem ctX8_wayFault (G : gT) (F : Nat) (a_t : Nat → Nat) (m_s : nF) (m_begun : nF) (m_kept : nF) (m_isKept : Int32) (m_past : nF) (m_states : Int32) (m_text : nF) (m_length : Int32) (m_far : nF) (m_queue : nF) (m_isOn : nF) (m_steps : nF) (m_wayCells : Int32) (m_turns : Int32) (m_visits : nF) (m_wasSo : nF) (m_bestAway : Int32) (m_bestMade : Int32) (m_bestFault : Int32) (m_isHere : nF) (m_place : Int32) (m_reason : Int32) (m_wide : Int32) (m_high : Int32) (o : (Int32 × nF × nF × nF × nF × Int32 × Int32)) (hm : mX8_wayFault F m_s m_far m_queue m_isOn m_steps m_wayCells m_turns = some o) : CT G yX8_wayFault wsX8_wayFault rmX8_wayFault [.ref (a_t 0)] (wX8 G a_t m_s m_begun m_kept m_isKept m_past m_states m_text m_length m_far m_queue m_isOn m_steps m_wayCells m_turns m_visits m_wasSo m_bestAway m_bestMade m_bestFault m_isHere m_place m_reason m_wide m_high) (fun v w => v = some (.int o.1) ∧ w = wX8 G a_t m_s m_begun m_kept m_isKept m_past m_states m_text m_length o.2.1 o.2.2.1 o.2.2.2.1 o.2.2.2.2.1 o.2.2.2.2.2.1 o.2.2.2.2.2.2 m_visits m_wasSo m_bestAway m_bestMade m_bestFault m_isHere m_place m_reason m_wide m_high) := by
  refine CT_of (cc := cX8_wayFault) (maxL := 1) (ret := (some .int)) 0 (by decide +kernel) rfl rfl (cat_ok rfl) (fun X hX hR hN => ?_)
  have hX : Ok G X cX8_wayFault RX8 wsX8_wayFault 1 rmX8_wayFault := hX
  have hX8 : ∀ w ∈ wsX80, w ∈ wsX8_wayFault := lX8_wayFault_X8
  unfold mX8_wayFault at hm
  refine w_aload_n (pc := 0) hX dX8_wayFault_0 rfl rfl ?_
  refine w_aload_n (pc := 1) hX dX8_wayFault_1 rfl rfl ?_
  refine gf_X8_s (pc := 2) hX dX8_wayFault_2 hX8 (List.mem_of_getElem? (i := 1) rfl) 0 rfl rfl ?_
  refine w_iconst (pc := 5) hX dX8_wayFault_5 ic_4 ?_
  refine w_iald (pc := 6) hX dX8_wayFault_6 1 rfl hm (fun hm => ?_)
  obtain ⟨r1, hr1, hm⟩ := bnd hm
  refine w_calldi (pc := 7) (ws' := wX8 G a_t m_s m_begun m_kept m_isKept m_past m_states m_text m_length r1.2.1 r1.2.2.1 r1.2.2.2.1 r1.2.2.2.2.1 r1.2.2.2.2.2.1 r1.2.2.2.2.2.2 m_visits m_wasSo m_bestAway m_bestMade m_bestFault m_isHere m_place m_reason m_wide m_high) hX [0, 1, 2, 3, 4, 5, 6, 7, 8, 9, 10, 11, 12] (runV (rest := []) hX [0, 1, 2, 3, 4, 5, 6, 7, 8, 9, 10, 11, 12] (ctX8_faultTo G F a_t m_s m_begun m_kept m_isKept m_past m_states m_text m_length m_far m_queue m_isOn m_steps m_wayCells m_turns m_visits m_wasSo m_bestAway m_bestMade m_bestFault m_isHere m_place m_reason m_wide m_high (m_s (4 : Int32).toNatClampNeg) r1 hr1) dX8_wayFault_7 1 gX8_wayFault_X8_faultTo rfl hyX8_faultTo ⟨Nat.le_of_ble_eq_true rfl, Nat.le_of_ble_eq_true rfl⟩ 0 rfl rfl rfl rfl (Nat.le_of_ble_eq_true rfl) ⟨Nat.le_of_ble_eq_true rfl, Nat.le_of_ble_eq_true rfl⟩ rfl rfl) rfl rfl rfl ⟨rfl, rfl⟩ ?_
  obtain rfl := som hm
  exact w_iret (pc := 10) hX hR dX8_wayFault_10 ⟨rfl, rfl⟩

theorem lX8_walks_X8 : ∀ w ∈ wsX80, w ∈ wsX8_walks := in_at [17, 18, 19, 20, 21, 22, 23, 24, 25, 26, 27, 28, 29, 30, 31, 32, 33, 34, 35, 36, 37, 38, 39, 40] (by decide +kernel)
set_option maxHeartbeats 4000000 in
set_option maxRecDepth 100000 in
theorem ctX8_walks (G : gT) (F : Nat) (a_t : Nat → Nat) (m_s : nF) (m_begun : nF) (m_kept : nF) (m_isKept : Int32) (m_past : nF) (m_states : Int32) (m_text : nF) (m_length : Int32) (m_far : nF) (m_queue : nF) (m_isOn : nF) (m_steps : nF) (m_wayCells : Int32) (m_turns : Int32) (m_visits : nF) (m_wasSo : nF) (m_bestAway : Int32) (m_bestMade : Int32) (m_bestFault : Int32) (m_isHere : nF) (m_place : Int32) (m_reason : Int32) (m_wide : Int32) (m_high : Int32) (o : (Int32 × nF × nF)) (hm : mX8_walks F m_s m_visits m_wasSo = some o) : CT G yX8_walks wsX8_walks rmX8_walks [.ref (a_t 0)] (wX8 G a_t m_s m_begun m_kept m_isKept m_past m_states m_text m_length m_far m_queue m_isOn m_steps m_wayCells m_turns m_visits m_wasSo m_bestAway m_bestMade m_bestFault m_isHere m_place m_reason m_wide m_high) (fun v w => v = some (.int o.1) ∧ w = wX8 G a_t m_s m_begun m_kept m_isKept m_past m_states m_text m_length m_far m_queue m_isOn m_steps m_wayCells m_turns o.2.1 o.2.2 m_bestAway m_bestMade m_bestFault m_isHere m_place m_reason m_wide m_high) := by
  refine CT_of (cc := cX8_walks) (maxL := 6) (ret := (some .boolean)) 5 (by decide +kernel) rfl rfl (cat_ok rfl) (fun X hX hR hN => ?_)
  have hX : Ok G X cX8_walks RX8 wsX8_walks 6 rmX8_walks := hX
  have hX8 : ∀ w ∈ wsX80, w ∈ wsX8_walks := lX8_walks_X8
  unfold mX8_walks at hm
  refine w_iconst (pc := 0) hX dX8_walks_0 ic_0 ?_
  refine w_istore_n (pc := 1) hX dX8_walks_1 rfl (Nat.le_of_ble_eq_true rfl) ?_
  refine w_jn (T := fun x1 : nF => WW G X 0 0 (wX8 G a_t m_s m_begun m_kept m_isKept m_past m_states m_text m_length m_far m_queue m_isOn m_steps m_wayCells m_turns x1 m_wasSo m_bestAway m_bestMade m_bestFault m_isHere m_place m_reason m_wide m_high) [some (.ref (a_t 0)), none, none, none, none, none] 21 []) hm (fun x1 hm => ?_) (fun j2 hj2 hm => ?_)
  ·
    unfold mX8_walks_K21 at hm
    refine w_iconst (pc := 21) hX dX8_walks_21 ic_0 ?_
    refine w_istore_n (pc := 22) hX dX8_walks_22 rfl (Nat.le_of_ble_eq_true rfl) ?_
    refine w_jn (T := fun x3 : nF => WW G X 0 0 (wX8 G a_t m_s m_begun m_kept m_isKept m_past m_states m_text m_length m_far m_queue m_isOn m_steps m_wayCells m_turns x1 x3 m_bestAway m_bestMade m_bestFault m_isHere m_place m_reason m_wide m_high) [some (.ref (a_t 0)), none, none, none, none, none] 43 []) hm (fun x3 hm => ?_) (fun j4 hj4 hm => ?_)
    ·
      unfold mX8_walks_K43 at hm
      refine w_aload_n (pc := 43) hX dX8_walks_43 rfl rfl ?_
      refine gf_X8_s (pc := 44) hX dX8_walks_44 hX8 (List.mem_of_getElem? (i := 3) rfl) 0 rfl rfl ?_
      refine w_iconst (pc := 47) hX dX8_walks_47 ic_2 ?_
      refine w_iald (pc := 48) hX dX8_walks_48 1 rfl hm (fun hm => ?_)
      refine w_istore_n (pc := 49) hX dX8_walks_49 rfl (Nat.le_of_ble_eq_true rfl) ?_
      refine w_aload_n (pc := 50) hX dX8_walks_50 rfl rfl ?_
      refine gf_X8_s (pc := 51) hX dX8_walks_51 hX8 (List.mem_of_getElem? (i := 3) rfl) 0 rfl rfl ?_
      refine w_iconst (pc := 54) hX dX8_walks_54 ic_3 ?_
      refine w_iald (pc := 55) hX dX8_walks_55 1 rfl hm (fun hm => ?_)
      refine w_iconst (pc := 56) hX dX8_walks_56 ic_2 ?_
      refine w_iadd (pc := 57) hX dX8_walks_57 ?_
      refine w_iconst (pc := 58) hX dX8_walks_58 ic_4 ?_
      refine w_irem (pc := 59) hX dX8_walks_59 hm (fun hm => ?_)
      refine w_istore_n (pc := 60) hX dX8_walks_60 rfl (Nat.le_of_ble_eq_true rfl) ?_
      refine w_lvs [true, true, true, false, false, false] ?_
      refine lpr_ind (T := fun x5 : (Int32 × Int32 × nF × nF) => WW G X 0 0 (wX8 G a_t m_s m_begun m_kept m_isKept m_past m_states m_text m_length m_far m_queue m_isOn m_steps m_wayCells m_turns x5.2.2.1 x5.2.2.2 m_bestAway m_bestMade m_bestFault m_isHere m_place m_reason m_wide m_high) [some (.ref (a_t 0)), some (.int x5.1), some (.int x5.2.1), none, none, none] 61 []) (fun self6 hself6 x5 hm => ?_) F (m_s (2 : Int32).toNatClampNeg, ((m_s (3 : Int32).toNatClampNeg) + (2 : Int32)) - ((m_s (3 : Int32).toNatClampNeg) + (2 : Int32)) / (4 : Int32) * (4 : Int32), x1, x3) hm
      unfold mX8_walks_L61 at hm
      refine w_aload_n (pc := 61) hX dX8_walks_61 rfl rfl ?_
      refine gf_X8_wasSo (pc := 62) hX dX8_walks_62 hX8 (List.mem_of_getElem? (i := 2) rfl) 0 rfl rfl ?_
      refine w_iconst (pc := 65) hX dX8_walks_65 ic_4 ?_
      refine w_iload_n (pc := 66) hX dX8_walks_66 rfl rfl ?_
      refine w_imul (pc := 67) hX dX8_walks_67 ?_
      refine w_iload_n (pc := 68) hX dX8_walks_68 rfl rfl ?_
      refine w_iadd (pc := 69) hX dX8_walks_69 ?_
      refine w_zald (pc := 70) hX dX8_walks_70 11 rfl hm (fun hm => ?_)
      refine w_if_ne (pc := 71) (tgt := 218) hX dX8_walks_71 (by decide) hm (fun hm => ?_) (fun hm => ?_)
      ·
        refine w_iconst (pc := 218) hX dX8_walks_218 ic_0 ?_
        refine w_zret (pc := 219) hX hR dX8_walks_219 hm (fun hm => ?_)
        obtain rfl := som hm
        exact ⟨rfl, rfl⟩
      ·
        refine w_aload_n (pc := 74) hX dX8_walks_74 rfl rfl ?_
        refine gf_X8_wasSo (pc := 75) hX dX8_walks_75 hX8 (List.mem_of_getElem? (i := 2) rfl) 0 rfl rfl ?_
        refine w_iconst (pc := 78) hX dX8_walks_78 ic_4 ?_
        refine w_iload_n (pc := 79) hX dX8_walks_79 rfl rfl ?_
        refine w_imul (pc := 80) hX dX8_walks_80 ?_
        refine w_iload_n (pc := 81) hX dX8_walks_81 rfl rfl ?_
        refine w_iadd (pc := 82) hX dX8_walks_82 ?_
        refine w_iconst (pc := 83) hX dX8_walks_83 ic_1 ?_
        refine w_zast (pc := 84) hX dX8_walks_84 11 rfl hm (fun hm => ?_)
        refine w_aload_n (pc := 85) hX dX8_walks_85 rfl rfl ?_
        refine gf_X8_visits (pc := 86) hX dX8_walks_86 hX8 (List.mem_of_getElem? (i := 1) rfl) 0 rfl rfl ?_
        refine w_iload_n (pc := 89) hX dX8_walks_89 rfl rfl ?_
        refine w_dup2 (pc := 90) hX dX8_walks_90 rfl rfl ?_
        refine w_iald (pc := 91) hX dX8_walks_91 10 rfl hm (fun hm => ?_)
        refine w_iconst (pc := 92) hX dX8_walks_92 ic_1 ?_
        refine w_iadd (pc := 93) hX dX8_walks_93 ?_
        refine w_iast (pc := 94) hX dX8_walks_94 10 rfl hm (fun hm => ?_)
        refine w_iconst (pc := 95) hX dX8_walks_95 ic_m1 ?_
        refine w_istore_n (pc := 96) hX dX8_walks_96 rfl (Nat.le_of_ble_eq_true rfl) ?_
        refine w_iconst (pc := 97) hX dX8_walks_97 ic_0 ?_
        refine w_istore (pc := 98) hX dX8_walks_98 (Nat.le_of_ble_eq_true rfl) ?_
        refine w_jn (T := fun x7 : Int32 => WW G X 0 0 (wX8 G a_t m_s m_begun m_kept m_isKept m_past m_states m_text m_length m_far m_queue m_isOn m_steps m_wayCells m_turns (upd x5.2.2.1 x5.1.toNatClampNeg ((x5.2.2.1 x5.1.toNatClampNeg) + (1 : Int32))) (upd x5.2.2.2 (((4 : Int32) * x5.1) + x5.2.1).toNatClampNeg (vp_nar .boolean (1 : Int32))) m_bestAway m_bestMade m_bestFault m_isHere m_place m_reason m_wide m_high) [some (.ref (a_t 0)), some (.int x5.1), none, some (.int x7), none, none] 200 []) hm (fun x7 hm => ?_) (fun j8 hj8 hm => ?_)
        ·
          unfold mX8_walks_K200 at hm
          refine w_iload_n (pc := 200) hX dX8_walks_200 rfl rfl ?_
          refine w_if_ge (pc := 201) (tgt := 206) hX dX8_walks_201 (by decide) hm (fun hm => ?_) (fun hm => ?_)
          ·
            refine w_aload_n (pc := 206) hX dX8_walks_206 rfl rfl ?_
            refine w_iload_n (pc := 207) hX dX8_walks_207 rfl rfl ?_
            refine w_iload_n (pc := 208) hX dX8_walks_208 rfl rfl ?_
            obtain ⟨r9, hr9, hm⟩ := bnd hm
            refine w_callpi (pc := 209) hX [0, 1, 2, 3, 4, 5, 6, 7, 8, 9, 10, 11, 12] (runV (rest := []) hX [0, 1, 2, 3, 4, 5, 6, 7, 8, 9, 10, 11, 12] (ctX8_besides G a_t m_s m_begun m_kept m_isKept m_past m_states m_text m_length m_far m_queue m_isOn m_steps m_wayCells m_turns (upd x5.2.2.1 x5.1.toNatClampNeg ((x5.2.2.1 x5.1.toNatClampNeg) + (1 : Int32))) (upd x5.2.2.2 (((4 : Int32) * x5.1) + x5.2.1).toNatClampNeg (vp_nar .boolean (1 : Int32))) m_bestAway m_bestMade m_bestFault m_isHere m_place m_reason m_wide m_high x5.1 x7 r9 hr9) dX8_walks_209 2 gX8_walks_X8_besides rfl hyX8_besides ⟨Nat.le_of_ble_eq_true rfl, Nat.le_of_ble_eq_true rfl⟩ 0 rfl rfl rfl rfl (Nat.le_of_ble_eq_true rfl) ⟨Nat.le_of_ble_eq_true rfl, Nat.le_of_ble_eq_true rfl⟩ rfl rfl) rfl ⟨rfl, rfl⟩ ?_
            refine w_istore_n (pc := 212) hX dX8_walks_212 rfl (Nat.le_of_ble_eq_true rfl) ?_
            refine w_iload_n (pc := 213) hX dX8_walks_213 rfl rfl ?_
            refine w_istore_n (pc := 214) hX dX8_walks_214 rfl (Nat.le_of_ble_eq_true rfl) ?_
            refine w_goto (pc := 215) (tgt := 61) hX dX8_walks_215 (by decide) ?_
            exact w_lvs [true, true, true, false, false, false] (hself6 (r9, x7, (upd x5.2.2.1 x5.1.toNatClampNeg ((x5.2.2.1 x5.1.toNatClampNeg) + (1 : Int32))), (upd x5.2.2.2 (((4 : Int32) * x5.1) + x5.2.1).toNatClampNeg (vp_nar .boolean (1 : Int32)))) hm)
          ·
            refine w_iconst (pc := 204) hX dX8_walks_204 ic_0 ?_
            refine w_zret (pc := 205) hX hR dX8_walks_205 hm (fun hm => ?_)
            obtain rfl := som hm
            exact ⟨rfl, rfl⟩
        ·
          refine w_lvs [true, true, true, true, true, false] ?_
          refine lpr_ind (T := fun x10 : (Int32 × Int32) => WW G X 0 0 (wX8 G a_t m_s m_begun m_kept m_isKept m_past m_states m_text m_length m_far m_queue m_isOn m_steps m_wayCells m_turns (upd x5.2.2.1 x5.1.toNatClampNeg ((x5.2.2.1 x5.1.toNatClampNeg) + (1 : Int32))) (upd x5.2.2.2 (((4 : Int32) * x5.1) + x5.2.1).toNatClampNeg (vp_nar .boolean (1 : Int32))) m_bestAway m_bestMade m_bestFault m_isHere m_place m_reason m_wide m_high) [some (.ref (a_t 0)), some (.int x5.1), some (.int x5.2.1), some (.int x10.1), some (.int x10.2), none] 100 []) (fun self11 hself11 x10 hm => ?_) F ((-1 : Int32), (0 : Int32)) hm
          unfold mX8_walks_L100 at hm
          refine w_iload (pc := 100) hX dX8_walks_100 rfl ?_
          refine w_iconst (pc := 102) hX dX8_walks_102 ic_4 ?_
          refine w_icmp_ge (pc := 103) (tgt := 200) hX dX8_walks_103 (by decide) hm (fun hm => ?_) (fun hm => ?_)
          ·
            exact w_lvs [true, true, false, true, false, false] (hj8 x10.1 hm)
          ·
            refine w_iload_n (pc := 106) hX dX8_walks_106 rfl rfl ?_
            refine w_if_ge (pc := 107) (tgt := 200) hX dX8_walks_107 (by decide) hm (fun hm => ?_) (fun hm => ?_)
            ·
              exact w_lvs [true, true, false, true, false, false] (hj8 x10.1 hm)
            ·
              refine w_iload (pc := 110) hX dX8_walks_110 rfl ?_
              refine w_jn (T := fun x12 : Int32 => WW G X 0 0 (wX8 G a_t m_s m_begun m_kept m_isKept m_past m_states m_text m_length m_far m_queue m_isOn m_steps m_wayCells m_turns (upd x5.2.2.1 x5.1.toNatClampNeg ((x5.2.2.1 x5.1.toNatClampNeg) + (1 : Int32))) (upd x5.2.2.2 (((4 : Int32) * x5.1) + x5.2.1).toNatClampNeg (vp_nar .boolean (1 : Int32))) m_bestAway m_bestMade m_bestFault m_isHere m_place m_reason m_wide m_high) [some (.ref (a_t 0)), some (.int x5.1), some (.int x5.2.1), none, some (.int x10.2), none] 152 [.int x12]) hm (fun x12 hm => ?_) (fun j13 hj13 hm => ?_)
              ·
                refine w_istore (pc := 152) hX dX8_walks_152 (Nat.le_of_ble_eq_true rfl) ?_
                refine w_iload_n (pc := 154) hX dX8_walks_154 rfl rfl ?_
                refine w_aload_n (pc := 155) hX dX8_walks_155 rfl rfl ?_
                refine gf_X8_s (pc := 156) hX dX8_walks_156 hX8 (List.mem_of_getElem? (i := 3) rfl) 0 rfl rfl ?_
                refine w_iconst (pc := 159) hX dX8_walks_159 ic_4 ?_
                refine w_iald (pc := 160) hX dX8_walks_160 1 rfl hm (fun hm => ?_)
                refine w_jn (T := fun x14 : Unit => WW G X 0 0 (wX8 G a_t m_s m_begun m_kept m_isKept m_past m_states m_text m_length m_far m_queue m_isOn m_steps m_wayCells m_turns (upd x5.2.2.1 x5.1.toNatClampNeg ((x5.2.2.1 x5.1.toNatClampNeg) + (1 : Int32))) (upd x5.2.2.2 (((4 : Int32) * x5.1) + x5.2.1).toNatClampNeg (vp_nar .boolean (1 : Int32))) m_bestAway m_bestMade m_bestFault m_isHere m_place m_reason m_wide m_high) [some (.ref (a_t 0)), some (.int x5.1), some (.int x5.2.1), none, some (.int x10.2), some (.int x12)] 177 []) hm (fun x14 hm => ?_) (fun j15 hj15 hm => ?_)
                ·
                  refine w_aload_n (pc := 177) hX dX8_walks_177 rfl rfl ?_
                  refine w_iload_n (pc := 178) hX dX8_walks_178 rfl rfl ?_
                  refine w_iload (pc := 179) hX dX8_walks_179 rfl ?_
                  obtain ⟨r16, hr16, hm⟩ := bnd hm
                  refine w_callpi (pc := 181) hX [0, 1, 2, 3, 4, 5, 6, 7, 8, 9, 10, 11, 12] (runV (rest := []) hX [0, 1, 2, 3, 4, 5, 6, 7, 8, 9, 10, 11, 12] (ctX8_isOpen G a_t m_s m_begun m_kept m_isKept m_past m_states m_text m_length m_far m_queue m_isOn m_steps m_wayCells m_turns (upd x5.2.2.1 x5.1.toNatClampNeg ((x5.2.2.1 x5.1.toNatClampNeg) + (1 : Int32))) (upd x5.2.2.2 (((4 : Int32) * x5.1) + x5.2.1).toNatClampNeg (vp_nar .boolean (1 : Int32))) m_bestAway m_bestMade m_bestFault m_isHere m_place m_reason m_wide m_high x5.1 x12 r16 hr16) dX8_walks_181 2 gX8_walks_X8_isOpen rfl hyX8_isOpen ⟨Nat.le_of_ble_eq_true rfl, Nat.le_of_ble_eq_true rfl⟩ 0 rfl rfl rfl rfl (Nat.le_of_ble_eq_true rfl) ⟨Nat.le_of_ble_eq_true rfl, Nat.le_of_ble_eq_true rfl⟩ rfl rfl) rfl ⟨rfl, rfl⟩ ?_
                  refine w_jn (T := fun x17 : Int32 => WW G X 0 0 (wX8 G a_t m_s m_begun m_kept m_isKept m_past m_states m_text m_length m_far m_queue m_isOn m_steps m_wayCells m_turns (upd x5.2.2.1 x5.1.toNatClampNeg ((x5.2.2.1 x5.1.toNatClampNeg) + (1 : Int32))) (upd x5.2.2.2 (((4 : Int32) * x5.1) + x5.2.1).toNatClampNeg (vp_nar .boolean (1 : Int32))) m_bestAway m_bestMade m_bestFault m_isHere m_place m_reason m_wide m_high) [some (.ref (a_t 0)), some (.int x5.1), some (.int x5.2.1), none, some (.int x10.2), none] 193 [.int x17]) hm (fun x17 hm => ?_) (fun j18 hj18 hm => ?_)
                  ·
                    refine w_istore_n (pc := 193) hX dX8_walks_193 rfl (Nat.le_of_ble_eq_true rfl) ?_
                    refine w_iinc (pc := 194) hX dX8_walks_194 rfl (Nat.le_of_ble_eq_true rfl) ic_1 ?_
                    refine w_goto (pc := 197) (tgt := 100) hX dX8_walks_197 (by decide) ?_
                    exact w_lvs [true, true, true, true, true, false] (hself11 (x17, x10.2 + (1 : Int32)) hm)
                  ·
                    refine w_if_eq (pc := 184) (tgt := 192) hX dX8_walks_184 (by decide) hm (fun hm => ?_) (fun hm => ?_)
                    ·
                      refine w_iconst (pc := 192) hX dX8_walks_192 ic_m1 ?_
                      exact w_lvs [true, true, true, false, true, false] (hj18 (-1 : Int32) hm)
                    ·
                      refine w_iload (pc := 187) hX dX8_walks_187 rfl ?_
                      refine w_goto (pc := 189) (tgt := 193) hX dX8_walks_189 (by decide) ?_
                      exact w_lvs [true, true, true, false, true, false] (hj18 x12 hm)
                ·
                  refine w_icmp_ne (pc := 161) (tgt := 177) hX dX8_walks_161 (by decide) hm (fun hm => ?_) (fun hm => ?_)
                  ·
                    exact w_lvs [true, true, true, false, true, true] (hj15 () hm)
                  ·
                    refine w_iload (pc := 164) hX dX8_walks_164 rfl ?_
                    refine w_aload_n (pc := 166) hX dX8_walks_166 rfl rfl ?_
                    refine gf_X8_s (pc := 167) hX dX8_walks_167 hX8 (List.mem_of_getElem? (i := 3) rfl) 0 rfl rfl ?_
                    refine w_iconst (pc := 170) hX dX8_walks_170 ic_5 ?_
                    refine w_iald (pc := 171) hX dX8_walks_171 1 rfl hm (fun hm => ?_)
                    refine w_icmp_ne (pc := 172) (tgt := 177) hX dX8_walks_172 (by decide) hm (fun hm => ?_) (fun hm => ?_)
                    ·
                      exact w_lvs [true, true, true, false, true, true] (hj15 () hm)
                    ·
                      refine w_iconst (pc := 175) hX dX8_walks_175 ic_1 ?_
                      refine w_zret (pc := 176) hX hR dX8_walks_176 hm (fun hm => ?_)
                      obtain rfl := som hm
                      exact ⟨rfl, rfl⟩
              ·
                refine w_if_ne (pc := 112) (tgt := 123) hX dX8_walks_112 (by decide) hm (fun hm => ?_) (fun hm => ?_)
                ·
                  refine w_iload (pc := 123) hX dX8_walks_123 rfl ?_
                  refine w_iconst (pc := 125) hX dX8_walks_125 ic_1 ?_
                  refine w_icmp_ne (pc := 126) (tgt := 133) hX dX8_walks_126 (by decide) hm (fun hm => ?_) (fun hm => ?_)
                  ·
                    refine w_iload (pc := 133) hX dX8_walks_133 rfl ?_
                    refine w_iconst (pc := 135) hX dX8_walks_135 ic_2 ?_
                    refine w_icmp_ne (pc := 136) (tgt := 147) hX dX8_walks_136 (by decide) hm (fun hm => ?_) (fun hm => ?_)
                    ·
                      refine w_iload_n (pc := 147) hX dX8_walks_147 rfl rfl ?_
                      refine w_iconst (pc := 148) hX dX8_walks_148 ic_2 ?_
                      refine w_iadd (pc := 149) hX dX8_walks_149 ?_
                      refine w_iconst (pc := 150) hX dX8_walks_150 ic_4 ?_
                      refine w_irem (pc := 151) hX dX8_walks_151 hm (fun hm => ?_)
                      exact w_lvs [true, true, true, false, true, false] (hj13 ((x5.2.1 + (2 : Int32)) - (x5.2.1 + (2 : Int32)) / (4 : Int32) * (4 : Int32)) hm)
                    ·
                      refine w_iload_n (pc := 139) hX dX8_walks_139 rfl rfl ?_
                      refine w_iconst (pc := 140) hX dX8_walks_140 ic_3 ?_
                      refine w_iadd (pc := 141) hX dX8_walks_141 ?_
                      refine w_iconst (pc := 142) hX dX8_walks_142 ic_4 ?_
                      refine w_irem (pc := 143) hX dX8_walks_143 hm (fun hm => ?_)
                      refine w_goto (pc := 144) (tgt := 152) hX dX8_walks_144 (by decide) ?_
                      exact w_lvs [true, true, true, false, true, false] (hj13 ((x5.2.1 + (3 : Int32)) - (x5.2.1 + (3 : Int32)) / (4 : Int32) * (4 : Int32)) hm)
                  ·
                    refine w_iload_n (pc := 129) hX dX8_walks_129 rfl rfl ?_
                    refine w_goto (pc := 130) (tgt := 152) hX dX8_walks_130 (by decide) ?_
                    exact w_lvs [true, true, true, false, true, false] (hj13 x5.2.1 hm)
                ·
                  refine w_iload_n (pc := 115) hX dX8_walks_115 rfl rfl ?_
                  refine w_iconst (pc := 116) hX dX8_walks_116 ic_1 ?_
                  refine w_iadd (pc := 117) hX dX8_walks_117 ?_
                  refine w_iconst (pc := 118) hX dX8_walks_118 ic_4 ?_
                  refine w_irem (pc := 119) hX dX8_walks_119 hm (fun hm => ?_)
                  refine w_goto (pc := 120) (tgt := 152) hX dX8_walks_120 (by decide) ?_
                  exact w_lvs [true, true, true, false, true, false] (hj13 ((x5.2.1 + (1 : Int32)) - (x5.2.1 + (1 : Int32)) / (4 : Int32) * (4 : Int32)) hm)
    ·
      refine w_lvs [true, true, false, false, false, false] ?_
      refine lpr_ind (T := fun x19 : (Int32 × nF) => WW G X 0 0 (wX8 G a_t m_s m_begun m_kept m_isKept m_past m_states m_text m_length m_far m_queue m_isOn m_steps m_wayCells m_turns x1 x19.2 m_bestAway m_bestMade m_bestFault m_isHere m_place m_reason m_wide m_high) [some (.ref (a_t 0)), some (.int x19.1), none, none, none, none] 23 []) (fun self20 hself20 x19 hm => ?_) F ((0 : Int32), m_wasSo) hm
      unfold mX8_walks_L23 at hm
      refine w_iload_n (pc := 23) hX dX8_walks_23 rfl rfl ?_
      refine w_sipush (pc := 24) hX dX8_walks_24 sp_144 ?_
      refine w_icmp_ge (pc := 27) (tgt := 43) hX dX8_walks_27 (by decide) hm (fun hm => ?_) (fun hm => ?_)
      ·
        exact w_lvs [true, false, false, false, false, false] (hj4 x19.2 hm)
      ·
        refine w_aload_n (pc := 30) hX dX8_walks_30 rfl rfl ?_
        refine gf_X8_wasSo (pc := 31) hX dX8_walks_31 hX8 (List.mem_of_getElem? (i := 2) rfl) 0 rfl rfl ?_
        refine w_iload_n (pc := 34) hX dX8_walks_34 rfl rfl ?_
        refine w_iconst (pc := 35) hX dX8_walks_35 ic_0 ?_
        refine w_zast (pc := 36) hX dX8_walks_36 11 rfl hm (fun hm => ?_)
        refine w_iinc (pc := 37) hX dX8_walks_37 rfl (Nat.le_of_ble_eq_true rfl) ic_1 ?_
        refine w_goto (pc := 40) (tgt := 23) hX dX8_walks_40 (by decide) ?_
        exact w_lvs [true, true, false, false, false, false] (hself20 (x19.1 + (1 : Int32), (upd x19.2 x19.1.toNatClampNeg (vp_nar .boolean (0 : Int32)))) hm)
  ·
    refine w_lvs [true, true, false, false, false, false] ?_
    refine lpr_ind (T := fun x21 : (Int32 × nF) => WW G X 0 0 (wX8 G a_t m_s m_begun m_kept m_isKept m_past m_states m_text m_length m_far m_queue m_isOn m_steps m_wayCells m_turns x21.2 m_wasSo m_bestAway m_bestMade m_bestFault m_isHere m_place m_reason m_wide m_high) [some (.ref (a_t 0)), some (.int x21.1), none, none, none, none] 2 []) (fun self22 hself22 x21 hm => ?_) F ((0 : Int32), m_visits) hm
    unfold mX8_walks_L2 at hm
    refine w_iload_n (pc := 2) hX dX8_walks_2 rfl rfl ?_
    refine w_bipush (pc := 3) hX dX8_walks_3 bp_36 ?_
    refine w_icmp_ge (pc := 5) (tgt := 21) hX dX8_walks_5 (by decide) hm (fun hm => ?_) (fun hm => ?_)
    ·
      exact w_lvs [true, false, false, false, false, false] (hj2 x21.2 hm)
    ·
      refine w_aload_n (pc := 8) hX dX8_walks_8 rfl rfl ?_
      refine gf_X8_visits (pc := 9) hX dX8_walks_9 hX8 (List.mem_of_getElem? (i := 1) rfl) 0 rfl rfl ?_
      refine w_iload_n (pc := 12) hX dX8_walks_12 rfl rfl ?_
      refine w_iconst (pc := 13) hX dX8_walks_13 ic_0 ?_
      refine w_iast (pc := 14) hX dX8_walks_14 10 rfl hm (fun hm => ?_)
      refine w_iinc (pc := 15) hX dX8_walks_15 rfl (Nat.le_of_ble_eq_true rfl) ic_1 ?_
      refine w_goto (pc := 18) (tgt := 2) hX dX8_walks_18 (by decide) ?_
      exact w_lvs [true, true, false, false, false, false] (hself22 (x21.1 + (1 : Int32), (upd x21.2 x21.1.toNatClampNeg (0 : Int32))) hm)

theorem lX8_walkCells_X8 : ∀ w ∈ wsX80, w ∈ wsX8_walkCells := in_at [8, 9, 10, 11, 12, 13, 14, 15, 16, 17, 18, 19, 20, 21, 22, 23, 24, 25, 26, 27, 28, 29, 30, 31] (by decide +kernel)
set_option maxHeartbeats 4000000 in
set_option maxRecDepth 100000 in
theorem ctX8_walkCells (G : gT) (F : Nat) (a_t : Nat → Nat) (m_s : nF) (m_begun : nF) (m_kept : nF) (m_isKept : Int32) (m_past : nF) (m_states : Int32) (m_text : nF) (m_length : Int32) (m_far : nF) (m_queue : nF) (m_isOn : nF) (m_steps : nF) (m_wayCells : Int32) (m_turns : Int32) (m_visits : nF) (m_wasSo : nF) (m_bestAway : Int32) (m_bestMade : Int32) (m_bestFault : Int32) (m_isHere : nF) (m_place : Int32) (m_reason : Int32) (m_wide : Int32) (m_high : Int32) (o : Int32) (hm : mX8_walkCells F m_s m_visits = some o) : CT G yX8_walkCells wsX8_walkCells rmX8_walkCells [.ref (a_t 0)] (wX8 G a_t m_s m_begun m_kept m_isKept m_past m_states m_text m_length m_far m_queue m_isOn m_steps m_wayCells m_turns m_visits m_wasSo m_bestAway m_bestMade m_bestFault m_isHere m_place m_reason m_wide m_high) (fun v w => v = some (.int o) ∧ w = wX8 G a_t m_s m_begun m_kept m_isKept m_past m_states m_text m_length m_far m_queue m_isOn m_steps m_wayCells m_turns m_visits m_wasSo m_bestAway m_bestMade m_bestFault m_isHere m_place m_reason m_wide m_high) := by
  refine CT_of (cc := cX8_walkCells) (maxL := 3) (ret := (some .int)) 2 (by decide +kernel) rfl rfl (cat_ok rfl) (fun X hX hR hN => ?_)
  have hX : Ok G X cX8_walkCells RX8 wsX8_walkCells 3 rmX8_walkCells := hX
  have hX8 : ∀ w ∈ wsX80, w ∈ wsX8_walkCells := lX8_walkCells_X8
  unfold mX8_walkCells at hm
  refine w_iconst (pc := 0) hX dX8_walkCells_0 ic_0 ?_
  refine w_istore_n (pc := 1) hX dX8_walkCells_1 rfl (Nat.le_of_ble_eq_true rfl) ?_
  refine w_iconst (pc := 2) hX dX8_walkCells_2 ic_0 ?_
  refine w_istore_n (pc := 3) hX dX8_walkCells_3 rfl (Nat.le_of_ble_eq_true rfl) ?_
  refine w_lvs [true, true, true] ?_
  refine lpr_ind (T := fun x1 : (Int32 × Int32) => WW G X 0 0 (wX8 G a_t m_s m_begun m_kept m_isKept m_past m_states m_text m_length m_far m_queue m_isOn m_steps m_wayCells m_turns m_visits m_wasSo m_bestAway m_bestMade m_bestFault m_isHere m_place m_reason m_wide m_high) [some (.ref (a_t 0)), some (.int x1.1), some (.int x1.2)] 4 []) (fun self2 hself2 x1 hm => ?_) F ((0 : Int32), (0 : Int32)) hm
  unfold mX8_walkCells_L4 at hm
  refine w_iload_n (pc := 4) hX dX8_walkCells_4 rfl rfl ?_
  refine w_aload_n (pc := 5) hX dX8_walkCells_5 rfl rfl ?_
  obtain ⟨r3, hr3, hm⟩ := bnd hm
  refine w_callpi (pc := 6) hX [0, 1, 2, 3, 4, 5, 6, 7, 8, 9, 10, 11, 12] (runV (rest := [.int x1.2]) hX [0, 1, 2, 3, 4, 5, 6, 7, 8, 9, 10, 11, 12] (ctX8_cells G a_t m_s m_begun m_kept m_isKept m_past m_states m_text m_length m_far m_queue m_isOn m_steps m_wayCells m_turns m_visits m_wasSo m_bestAway m_bestMade m_bestFault m_isHere m_place m_reason m_wide m_high r3 hr3) dX8_walkCells_6 0 gX8_walkCells_X8_cells rfl hyX8_cells ⟨Nat.le_of_ble_eq_true rfl, Nat.le_of_ble_eq_true rfl⟩ 0 rfl rfl rfl rfl (Nat.le_of_ble_eq_true rfl) ⟨Nat.le_of_ble_eq_true rfl, Nat.le_of_ble_eq_true rfl⟩ rfl rfl) rfl ⟨rfl, rfl⟩ ?_
  refine w_icmp_ge (pc := 9) (tgt := 27) hX dX8_walkCells_9 (by decide) hm (fun hm => ?_) (fun hm => ?_)
  ·
    refine w_iload_n (pc := 27) hX dX8_walkCells_27 rfl rfl ?_
    obtain rfl := som hm
    exact w_iret (pc := 28) hX hR dX8_walkCells_28 ⟨rfl, rfl⟩
  ·
    refine w_iload_n (pc := 12) hX dX8_walkCells_12 rfl rfl ?_
    refine w_aload_n (pc := 13) hX dX8_walkCells_13 rfl rfl ?_
    refine gf_X8_visits (pc := 14) hX dX8_walkCells_14 hX8 (List.mem_of_getElem? (i := 1) rfl) 0 rfl rfl ?_
    refine w_iload_n (pc := 17) hX dX8_walkCells_17 rfl rfl ?_
    refine w_iald (pc := 18) hX dX8_walkCells_18 10 rfl hm (fun hm => ?_)
    refine w_iadd (pc := 19) hX dX8_walkCells_19 ?_
    refine w_istore_n (pc := 20) hX dX8_walkCells_20 rfl (Nat.le_of_ble_eq_true rfl) ?_
    refine w_iinc (pc := 21) hX dX8_walkCells_21 rfl (Nat.le_of_ble_eq_true rfl) ic_1 ?_
    refine w_goto (pc := 24) (tgt := 4) hX dX8_walkCells_24 (by decide) ?_
    exact w_lvs [true, true, true] (hself2 (x1.1 + (m_visits x1.2.toNatClampNeg), x1.2 + (1 : Int32)) hm)

theorem lX8_walkFault_X8 : ∀ w ∈ wsX80, w ∈ wsX8_walkFault := in_at [8, 9, 10, 11, 12, 13, 14, 15, 16, 17, 18, 19, 20, 21, 22, 23, 24, 25, 26, 27, 28, 29, 30, 31] (by decide +kernel)
set_option maxHeartbeats 4000000 in
set_option maxRecDepth 100000 in
theorem ctX8_walkFault (G : gT) (F : Nat) (a_t : Nat → Nat) (m_s : nF) (m_begun : nF) (m_kept : nF) (m_isKept : Int32) (m_past : nF) (m_states : Int32) (m_text : nF) (m_length : Int32) (m_far : nF) (m_queue : nF) (m_isOn : nF) (m_steps : nF) (m_wayCells : Int32) (m_turns : Int32) (m_visits : nF) (m_wasSo : nF) (m_bestAway : Int32) (m_bestMade : Int32) (m_bestFault : Int32) (m_isHere : nF) (m_place : Int32) (m_reason : Int32) (m_wide : Int32) (m_high : Int32) (o : Int32) (hm : mX8_walkFault F m_s m_visits = some o) : CT G yX8_walkFault wsX8_walkFault rmX8_walkFault [.ref (a_t 0)] (wX8 G a_t m_s m_begun m_kept m_isKept m_past m_states m_text m_length m_far m_queue m_isOn m_steps m_wayCells m_turns m_visits m_wasSo m_bestAway m_bestMade m_bestFault m_isHere m_place m_reason m_wide m_high) (fun v w => v = some (.int o) ∧ w = wX8 G a_t m_s m_begun m_kept m_isKept m_past m_states m_text m_length m_far m_queue m_isOn m_steps m_wayCells m_turns m_visits m_wasSo m_bestAway m_bestMade m_bestFault m_isHere m_place m_reason m_wide m_high) := by
  refine CT_of (cc := cX8_walkFault) (maxL := 4) (ret := (some .int)) 3 (by decide +kernel) rfl rfl (cat_ok rfl) (fun X hX hR hN => ?_)
  have hX : Ok G X cX8_walkFault RX8 wsX8_walkFault 4 rmX8_walkFault := hX
  have hX8 : ∀ w ∈ wsX80, w ∈ wsX8_walkFault := lX8_walkFault_X8
  unfold mX8_walkFault at hm
  refine w_iconst (pc := 0) hX dX8_walkFault_0 ic_0 ?_
  refine w_istore_n (pc := 1) hX dX8_walkFault_1 rfl (Nat.le_of_ble_eq_true rfl) ?_
  refine w_iconst (pc := 2) hX dX8_walkFault_2 ic_0 ?_
  refine w_istore_n (pc := 3) hX dX8_walkFault_3 rfl (Nat.le_of_ble_eq_true rfl) ?_
  refine w_lvs [true, true, true, false] ?_
  refine lpr_ind (T := fun x1 : (Int32 × Int32) => WW G X 0 0 (wX8 G a_t m_s m_begun m_kept m_isKept m_past m_states m_text m_length m_far m_queue m_isOn m_steps m_wayCells m_turns m_visits m_wasSo m_bestAway m_bestMade m_bestFault m_isHere m_place m_reason m_wide m_high) [some (.ref (a_t 0)), some (.int x1.1), some (.int x1.2), none] 4 []) (fun self2 hself2 x1 hm => ?_) F ((0 : Int32), (0 : Int32)) hm
  unfold mX8_walkFault_L4 at hm
  refine w_iload_n (pc := 4) hX dX8_walkFault_4 rfl rfl ?_
  refine w_aload_n (pc := 5) hX dX8_walkFault_5 rfl rfl ?_
  obtain ⟨r3, hr3, hm⟩ := bnd hm
  refine w_callpi (pc := 6) hX [0, 1, 2, 3, 4, 5, 6, 7, 8, 9, 10, 11, 12] (runV (rest := [.int x1.2]) hX [0, 1, 2, 3, 4, 5, 6, 7, 8, 9, 10, 11, 12] (ctX8_cells G a_t m_s m_begun m_kept m_isKept m_past m_states m_text m_length m_far m_queue m_isOn m_steps m_wayCells m_turns m_visits m_wasSo m_bestAway m_bestMade m_bestFault m_isHere m_place m_reason m_wide m_high r3 hr3) dX8_walkFault_6 0 gX8_walkFault_X8_cells rfl hyX8_cells ⟨Nat.le_of_ble_eq_true rfl, Nat.le_of_ble_eq_true rfl⟩ 0 rfl rfl rfl rfl (Nat.le_of_ble_eq_true rfl) ⟨Nat.le_of_ble_eq_true rfl, Nat.le_of_ble_eq_true rfl⟩ rfl rfl) rfl ⟨rfl, rfl⟩ ?_
  refine w_icmp_ge (pc := 9) (tgt := 86) hX dX8_walkFault_9 (by decide) hm (fun hm => ?_) (fun hm => ?_)
  ·
    refine w_iload_n (pc := 86) hX dX8_walkFault_86 rfl rfl ?_
    obtain rfl := som hm
    exact w_iret (pc := 87) hX hR dX8_walkFault_87 ⟨rfl, rfl⟩
  ·
    refine w_iconst (pc := 12) hX dX8_walkFault_12 ic_3 ?_
    refine w_aload_n (pc := 13) hX dX8_walkFault_13 rfl rfl ?_
    refine gf_X8_visits (pc := 14) hX dX8_walkFault_14 hX8 (List.mem_of_getElem? (i := 1) rfl) 0 rfl rfl ?_
    refine w_iload_n (pc := 17) hX dX8_walkFault_17 rfl rfl ?_
    refine w_iald (pc := 18) hX dX8_walkFault_18 10 rfl hm (fun hm => ?_)
    refine w_imul (pc := 19) hX dX8_walkFault_19 ?_
    refine w_bipush (pc := 20) hX dX8_walkFault_20 bp_9 ?_
    refine w_jn (T := fun x4 : Int32 => WW G X 0 0 (wX8 G a_t m_s m_begun m_kept m_isKept m_past m_states m_text m_length m_far m_queue m_isOn m_steps m_wayCells m_turns m_visits m_wasSo m_bestAway m_bestMade m_bestFault m_isHere m_place m_reason m_wide m_high) [some (.ref (a_t 0)), some (.int x1.1), some (.int x1.2), none] 38 [.int x4]) hm (fun x4 hm => ?_) (fun j5 hj5 hm => ?_)
    ·
      refine w_istore_n (pc := 38) hX dX8_walkFault_38 rfl (Nat.le_of_ble_eq_true rfl) ?_
      refine w_iload_n (pc := 39) hX dX8_walkFault_39 rfl rfl ?_
      refine w_iload_n (pc := 40) hX dX8_walkFault_40 rfl rfl ?_
      refine w_aload_n (pc := 41) hX dX8_walkFault_41 rfl rfl ?_
      refine gf_X8_s (pc := 42) hX dX8_walkFault_42 hX8 (List.mem_of_getElem? (i := 2) rfl) 0 rfl rfl ?_
      refine w_bipush (pc := 45) hX dX8_walkFault_45 bp_6 ?_
      refine w_iload_n (pc := 47) hX dX8_walkFault_47 rfl rfl ?_
      refine w_iadd (pc := 48) hX dX8_walkFault_48 ?_
      refine w_iald (pc := 49) hX dX8_walkFault_49 1 rfl hm (fun hm => ?_)
      refine w_jn (T := fun x6 : Int32 => WW G X 0 0 (wX8 G a_t m_s m_begun m_kept m_isKept m_past m_states m_text m_length m_far m_queue m_isOn m_steps m_wayCells m_turns m_visits m_wasSo m_bestAway m_bestMade m_bestFault m_isHere m_place m_reason m_wide m_high) [some (.ref (a_t 0)), none, some (.int x1.2), none] 78 [.int x6, .int x1.1]) hm (fun x6 hm => ?_) (fun j7 hj7 hm => ?_)
      ·
        refine w_iadd (pc := 78) hX dX8_walkFault_78 ?_
        refine w_istore_n (pc := 79) hX dX8_walkFault_79 rfl (Nat.le_of_ble_eq_true rfl) ?_
        refine w_iinc (pc := 80) hX dX8_walkFault_80 rfl (Nat.le_of_ble_eq_true rfl) ic_1 ?_
        refine w_goto (pc := 83) (tgt := 4) hX dX8_walkFault_83 (by decide) ?_
        exact w_lvs [true, true, true, false] (hself2 (x1.1 + x6, x1.2 + (1 : Int32)) hm)
      ·
        refine w_icmp_le (pc := 50) (tgt := 67) hX dX8_walkFault_50 (by decide) hm (fun hm => ?_) (fun hm => ?_)
        ·
          refine w_aload_n (pc := 67) hX dX8_walkFault_67 rfl rfl ?_
          refine gf_X8_s (pc := 68) hX dX8_walkFault_68 hX8 (List.mem_of_getElem? (i := 2) rfl) 0 rfl rfl ?_
          refine w_bipush (pc := 71) hX dX8_walkFault_71 bp_6 ?_
          refine w_iload_n (pc := 73) hX dX8_walkFault_73 rfl rfl ?_
          refine w_iadd (pc := 74) hX dX8_walkFault_74 ?_
          refine w_iald (pc := 75) hX dX8_walkFault_75 1 rfl hm (fun hm => ?_)
          refine w_iload_n (pc := 76) hX dX8_walkFault_76 rfl rfl ?_
          refine w_isub (pc := 77) hX dX8_walkFault_77 ?_
          exact w_lvs [true, false, true, false] (hj7 ((m_s ((6 : Int32) + x1.2).toNatClampNeg) - x4) hm)
        ·
          refine w_iload_n (pc := 53) hX dX8_walkFault_53 rfl rfl ?_
          refine w_aload_n (pc := 54) hX dX8_walkFault_54 rfl rfl ?_
          refine gf_X8_s (pc := 55) hX dX8_walkFault_55 hX8 (List.mem_of_getElem? (i := 2) rfl) 0 rfl rfl ?_
          refine w_bipush (pc := 58) hX dX8_walkFault_58 bp_6 ?_
          refine w_iload_n (pc := 60) hX dX8_walkFault_60 rfl rfl ?_
          refine w_iadd (pc := 61) hX dX8_walkFault_61 ?_
          refine w_iald (pc := 62) hX dX8_walkFault_62 1 rfl hm (fun hm => ?_)
          refine w_isub (pc := 63) hX dX8_walkFault_63 ?_
          refine w_goto (pc := 64) (tgt := 78) hX dX8_walkFault_64 (by decide) ?_
          exact w_lvs [true, false, true, false] (hj7 (x4 - (m_s ((6 : Int32) + x1.2).toNatClampNeg)) hm)
    ·
      refine w_icmp_le (pc := 22) (tgt := 30) hX dX8_walkFault_22 (by decide) hm (fun hm => ?_) (fun hm => ?_)
      ·
        refine w_iconst (pc := 30) hX dX8_walkFault_30 ic_3 ?_
        refine w_aload_n (pc := 31) hX dX8_walkFault_31 rfl rfl ?_
        refine gf_X8_visits (pc := 32) hX dX8_walkFault_32 hX8 (List.mem_of_getElem? (i := 1) rfl) 0 rfl rfl ?_
        refine w_iload_n (pc := 35) hX dX8_walkFault_35 rfl rfl ?_
        refine w_iald (pc := 36) hX dX8_walkFault_36 10 rfl hm (fun hm => ?_)
        refine w_imul (pc := 37) hX dX8_walkFault_37 ?_
        exact w_lvs [true, true, true, false] (hj5 ((3 : Int32) * (m_visits x1.2.toNatClampNeg)) hm)
      ·
        refine w_bipush (pc := 25) hX dX8_walkFault_25 bp_9 ?_
        refine w_goto (pc := 27) (tgt := 38) hX dX8_walkFault_27 (by decide) ?_
        exact w_lvs [true, true, true, false] (hj5 (9 : Int32) hm)

theorem lX8_triesFor_X8 : ∀ w ∈ wsX80, w ∈ wsX8_triesFor := in_at [49, 50, 51, 52, 53, 54, 55, 56, 57, 58, 59, 60, 61, 62, 63, 64, 65, 66, 67, 68, 69, 70, 71, 72] (by decide +kernel)
set_option maxHeartbeats 4000000 in
set_option maxRecDepth 100000 in
theorem ctX8_triesFor (G : gT) (F : Nat) (a_t : Nat → Nat) (m_s : nF) (m_begun : nF) (m_kept : nF) (m_isKept : Int32) (m_past : nF) (m_states : Int32) (m_text : nF) (m_length : Int32) (m_far : nF) (m_queue : nF) (m_isOn : nF) (m_steps : nF) (m_wayCells : Int32) (m_turns : Int32) (m_visits : nF) (m_wasSo : nF) (m_bestAway : Int32) (m_bestMade : Int32) (m_bestFault : Int32) (m_isHere : nF) (m_place : Int32) (m_reason : Int32) (m_wide : Int32) (m_high : Int32) (g1 : Int32) (o : (nF × nF × nF × nF × nF × Int32 × Int32 × Int32 × Int32 × Int32 × nF)) (hm : mX8_triesFor F m_s m_far m_queue m_isOn m_steps m_wayCells m_turns m_bestAway m_bestMade m_bestFault m_isHere g1 = some o) : CT G yX8_triesFor wsX8_triesFor rmX8_triesFor [.ref (a_t 0), .int g1] (wX8 G a_t m_s m_begun m_kept m_isKept m_past m_states m_text m_length m_far m_queue m_isOn m_steps m_wayCells m_turns m_visits m_wasSo m_bestAway m_bestMade m_bestFault m_isHere m_place m_reason m_wide m_high) (fun v w => v = none ∧ w = wX8 G a_t o.1 m_begun m_kept m_isKept m_past m_states m_text m_length o.2.1 o.2.2.1 o.2.2.2.1 o.2.2.2.2.1 o.2.2.2.2.2.1 o.2.2.2.2.2.2.1 m_visits m_wasSo o.2.2.2.2.2.2.2.1 o.2.2.2.2.2.2.2.2.1 o.2.2.2.2.2.2.2.2.2.1 o.2.2.2.2.2.2.2.2.2.2 m_place m_reason m_wide m_high) := by
  refine CT_of (cc := cX8_triesFor) (maxL := 5) (ret := none) 3 (by decide +kernel) rfl rfl (cat_ok rfl) (fun X hX hR hN => ?_)
  have hX : Ok G X cX8_triesFor RX8 wsX8_triesFor 5 rmX8_triesFor := hX
  have hX8 : ∀ w ∈ wsX80, w ∈ wsX8_triesFor := lX8_triesFor_X8
  unfold mX8_triesFor at hm
  refine w_aload_n (pc := 0) hX dX8_triesFor_0 rfl rfl ?_
  refine w_iload_n (pc := 1) hX dX8_triesFor_1 rfl rfl ?_
  refine w_iconst (pc := 2) hX dX8_triesFor_2 ic_2 ?_
  refine w_idiv (pc := 3) hX dX8_triesFor_3 hm (fun hm => ?_)
  obtain ⟨r1, hr1, hm⟩ := bnd hm
  refine w_calldv (pc := 4) (ws' := wX8 G a_t m_s m_begun m_kept m_isKept m_past m_states m_text m_length r1.1 r1.2 m_isOn m_steps m_wayCells m_turns m_visits m_wasSo m_bestAway m_bestMade m_bestFault m_isHere m_place m_reason m_wide m_high) hX [0, 1, 2, 3, 4, 5, 6, 7, 8, 9, 10, 11, 12] (runV (rest := []) hX [0, 1, 2, 3, 4, 5, 6, 7, 8, 9, 10, 11, 12] (ctX8_measures G F a_t m_s m_begun m_kept m_isKept m_past m_states m_text m_length m_far m_queue m_isOn m_steps m_wayCells m_turns m_visits m_wasSo m_bestAway m_bestMade m_bestFault m_isHere m_place m_reason m_wide m_high (g1 / (2 : Int32)) r1 hr1) dX8_triesFor_4 1 gX8_triesFor_X8_measures rfl hyX8_measures ⟨Nat.le_of_ble_eq_true rfl, Nat.le_of_ble_eq_true rfl⟩ 0 rfl rfl rfl rfl (Nat.le_of_ble_eq_true rfl) ⟨Nat.le_of_ble_eq_true rfl, Nat.le_of_ble_eq_true rfl⟩ rfl rfl) rfl rfl rfl ⟨rfl, rfl⟩ ?_
  refine w_iconst (pc := 7) hX dX8_triesFor_7 ic_0 ?_
  refine w_istore_n (pc := 8) hX dX8_triesFor_8 rfl (Nat.le_of_ble_eq_true rfl) ?_
  refine w_jn (T := fun x2 : nF => WW G X 0 0 (wX8 G a_t m_s m_begun m_kept m_isKept m_past m_states m_text m_length r1.1 r1.2 m_isOn m_steps m_wayCells m_turns m_visits m_wasSo m_bestAway m_bestMade m_bestFault x2 m_place m_reason m_wide m_high) [some (.ref (a_t 0)), some (.int g1), none, none, none] 43 []) hm (fun x2 hm => ?_) (fun j3 hj3 hm => ?_)
  ·
    unfold mX8_triesFor_K43 at hm
    refine w_iconst (pc := 43) hX dX8_triesFor_43 ic_0 ?_
    refine w_istore_n (pc := 44) hX dX8_triesFor_44 rfl (Nat.le_of_ble_eq_true rfl) ?_
    refine w_lvs [true, true, true, false, false] ?_
    refine lpr_ind (T := fun x4 : (Int32 × nF × nF × nF × nF × nF × Int32 × Int32 × Int32 × Int32 × Int32) => WW G X 0 0 (wX8 G a_t x4.2.1 m_begun m_kept m_isKept m_past m_states m_text m_length x4.2.2.1 x4.2.2.2.1 x4.2.2.2.2.1 x4.2.2.2.2.2.1 x4.2.2.2.2.2.2.1 x4.2.2.2.2.2.2.2.1 m_visits m_wasSo x4.2.2.2.2.2.2.2.2.1 x4.2.2.2.2.2.2.2.2.2.1 x4.2.2.2.2.2.2.2.2.2.2 x2 m_place m_reason m_wide m_high) [some (.ref (a_t 0)), some (.int g1), some (.int x4.1), none, none] 45 []) (fun self5 hself5 x4 hm => ?_) F ((0 : Int32), m_s, r1.1, r1.2, m_isOn, m_steps, m_wayCells, m_turns, m_bestAway, m_bestMade, m_bestFault) hm
    unfold mX8_triesFor_L45 at hm
    refine w_iload_n (pc := 45) hX dX8_triesFor_45 rfl rfl ?_
    refine w_iconst (pc := 46) hX dX8_triesFor_46 ic_2 ?_
    refine w_aload_n (pc := 47) hX dX8_triesFor_47 rfl rfl ?_
    obtain ⟨r6, hr6, hm⟩ := bnd hm
    refine w_callpi (pc := 48) hX [0, 1, 2, 3, 4, 5, 6, 7, 8, 9, 10, 11, 12] (runV (rest := [.int (2 : Int32), .int x4.1]) hX [0, 1, 2, 3, 4, 5, 6, 7, 8, 9, 10, 11, 12] (ctX8_cells G a_t x4.2.1 m_begun m_kept m_isKept m_past m_states m_text m_length x4.2.2.1 x4.2.2.2.1 x4.2.2.2.2.1 x4.2.2.2.2.2.1 x4.2.2.2.2.2.2.1 x4.2.2.2.2.2.2.2.1 m_visits m_wasSo x4.2.2.2.2.2.2.2.2.1 x4.2.2.2.2.2.2.2.2.2.1 x4.2.2.2.2.2.2.2.2.2.2 x2 m_place m_reason m_wide m_high r6 hr6) dX8_triesFor_48 0 gX8_triesFor_X8_cells rfl hyX8_cells ⟨Nat.le_of_ble_eq_true rfl, Nat.le_of_ble_eq_true rfl⟩ 0 rfl rfl rfl rfl (Nat.le_of_ble_eq_true rfl) ⟨Nat.le_of_ble_eq_true rfl, Nat.le_of_ble_eq_true rfl⟩ rfl rfl) rfl ⟨rfl, rfl⟩ ?_
    refine w_imul (pc := 51) hX dX8_triesFor_51 ?_
    refine w_icmp_ge (pc := 52) (tgt := 144) hX dX8_triesFor_52 (by decide) hm (fun hm => ?_) (fun hm => ?_)
    ·
      obtain rfl := som hm
      exact w_vret (pc := 144) hX hR dX8_triesFor_144 ⟨rfl, rfl⟩
    ·
      refine w_aload_n (pc := 55) hX dX8_triesFor_55 rfl rfl ?_
      refine w_iload_n (pc := 56) hX dX8_triesFor_56 rfl rfl ?_
      obtain ⟨r7, hr7, hm⟩ := bnd hm
      refine w_callpi (pc := 57) hX [0, 1, 2, 3, 4, 5, 6, 7, 8, 9, 10, 11, 12] (runV (rest := []) hX [0, 1, 2, 3, 4, 5, 6, 7, 8, 9, 10, 11, 12] (ctX8_second G a_t x4.2.1 m_begun m_kept m_isKept m_past m_states m_text m_length x4.2.2.1 x4.2.2.2.1 x4.2.2.2.2.1 x4.2.2.2.2.2.1 x4.2.2.2.2.2.2.1 x4.2.2.2.2.2.2.2.1 m_visits m_wasSo x4.2.2.2.2.2.2.2.2.1 x4.2.2.2.2.2.2.2.2.2.1 x4.2.2.2.2.2.2.2.2.2.2 x2 m_place m_reason m_wide m_high x4.1 r7 hr7) dX8_triesFor_57 1 gX8_triesFor_X8_second rfl hyX8_second ⟨Nat.le_of_ble_eq_true rfl, Nat.le_of_ble_eq_true rfl⟩ 0 rfl rfl rfl rfl (Nat.le_of_ble_eq_true rfl) ⟨Nat.le_of_ble_eq_true rfl, Nat.le_of_ble_eq_true rfl⟩ rfl rfl) rfl ⟨rfl, rfl⟩ ?_
      refine w_istore_n (pc := 60) hX dX8_triesFor_60 rfl (Nat.le_of_ble_eq_true rfl) ?_
      refine w_iload_n (pc := 61) hX dX8_triesFor_61 rfl rfl ?_
      refine w_iload_n (pc := 62) hX dX8_triesFor_62 rfl rfl ?_
      refine w_jn (T := fun x8 : (nF × nF × nF × nF × nF × Int32 × Int32 × Int32 × Int32 × Int32) => WW G X 0 0 (wX8 G a_t x8.1 m_begun m_kept m_isKept m_past m_states m_text m_length x8.2.1 x8.2.2.1 x8.2.2.2.1 x8.2.2.2.2.1 x8.2.2.2.2.2.1 x8.2.2.2.2.2.2.1 m_visits m_wasSo x8.2.2.2.2.2.2.2.1 x8.2.2.2.2.2.2.2.2.1 x8.2.2.2.2.2.2.2.2.2 x2 m_place m_reason m_wide m_high) [some (.ref (a_t 0)), some (.int g1), some (.int x4.1), none, none] 138 []) hm (fun x8 hm => ?_) (fun j9 hj9 hm => ?_)
      ·
        refine w_iinc (pc := 138) hX dX8_triesFor_138 rfl (Nat.le_of_ble_eq_true rfl) ic_1 ?_
        refine w_goto (pc := 141) (tgt := 45) hX dX8_triesFor_141 (by decide) ?_
        exact w_lvs [true, true, true, false, false] (hself5 (x4.1 + (1 : Int32), x8.1, x8.2.1, x8.2.2.1, x8.2.2.2.1, x8.2.2.2.2.1, x8.2.2.2.2.2.1, x8.2.2.2.2.2.2.1, x8.2.2.2.2.2.2.2.1, x8.2.2.2.2.2.2.2.2.1, x8.2.2.2.2.2.2.2.2.2) hm)
      ·
        refine w_icmp_eq (pc := 63) (tgt := 138) hX dX8_triesFor_63 (by decide) hm (fun hm => ?_) (fun hm => ?_)
        ·
          exact w_lvs [true, true, true, false, false] (hj9 (x4.2.1, x4.2.2.1, x4.2.2.2.1, x4.2.2.2.2.1, x4.2.2.2.2.2.1, x4.2.2.2.2.2.2.1, x4.2.2.2.2.2.2.2.1, x4.2.2.2.2.2.2.2.2.1, x4.2.2.2.2.2.2.2.2.2.1, x4.2.2.2.2.2.2.2.2.2.2) hm)
        ·
          refine w_iload_n (pc := 66) hX dX8_triesFor_66 rfl rfl ?_
          refine w_if_lt (pc := 67) (tgt := 138) hX dX8_triesFor_67 (by decide) hm (fun hm => ?_) (fun hm => ?_)
          ·
            exact w_lvs [true, true, true, false, false] (hj9 (x4.2.1, x4.2.2.1, x4.2.2.2.1, x4.2.2.2.2.1, x4.2.2.2.2.2.1, x4.2.2.2.2.2.2.1, x4.2.2.2.2.2.2.2.1, x4.2.2.2.2.2.2.2.2.1, x4.2.2.2.2.2.2.2.2.2.1, x4.2.2.2.2.2.2.2.2.2.2) hm)
          ·
            refine w_aload_n (pc := 70) hX dX8_triesFor_70 rfl rfl ?_
            refine gf_X8_isHere (pc := 71) hX dX8_triesFor_71 hX8 (List.mem_of_getElem? (i := 1) rfl) 0 rfl rfl ?_
            refine w_iload_n (pc := 74) hX dX8_triesFor_74 rfl rfl ?_
            refine w_iconst (pc := 75) hX dX8_triesFor_75 ic_2 ?_
            refine w_idiv (pc := 76) hX dX8_triesFor_76 hm (fun hm => ?_)
            refine w_zald (pc := 77) hX dX8_triesFor_77 12 rfl hm (fun hm => ?_)
            refine w_aload_n (pc := 78) hX dX8_triesFor_78 rfl rfl ?_
            refine gf_X8_isHere (pc := 79) hX dX8_triesFor_79 hX8 (List.mem_of_getElem? (i := 1) rfl) 0 rfl rfl ?_
            refine w_iload_n (pc := 82) hX dX8_triesFor_82 rfl rfl ?_
            refine w_zald (pc := 83) hX dX8_triesFor_83 12 rfl hm (fun hm => ?_)
            refine w_icmp_eq (pc := 84) (tgt := 138) hX dX8_triesFor_84 (by decide) hm (fun hm => ?_) (fun hm => ?_)
            ·
              exact w_lvs [true, true, true, false, false] (hj9 (x4.2.1, x4.2.2.1, x4.2.2.2.1, x4.2.2.2.2.1, x4.2.2.2.2.2.1, x4.2.2.2.2.2.2.1, x4.2.2.2.2.2.2.2.1, x4.2.2.2.2.2.2.2.2.1, x4.2.2.2.2.2.2.2.2.2.1, x4.2.2.2.2.2.2.2.2.2.2) hm)
            ·
              refine w_aload_n (pc := 87) hX dX8_triesFor_87 rfl rfl ?_
              refine gf_X8_s (pc := 88) hX dX8_triesFor_88 hX8 (List.mem_of_getElem? (i := 3) rfl) 0 rfl rfl ?_
              refine w_bipush (pc := 91) hX dX8_triesFor_91 bp_42 ?_
              refine w_iload_n (pc := 93) hX dX8_triesFor_93 rfl rfl ?_
              refine w_iadd (pc := 94) hX dX8_triesFor_94 ?_
              refine w_iconst (pc := 95) hX dX8_triesFor_95 ic_1 ?_
              refine w_iast (pc := 96) hX dX8_triesFor_96 1 rfl hm (fun hm => ?_)
              refine w_aload_n (pc := 97) hX dX8_triesFor_97 rfl rfl ?_
              obtain ⟨r10, hr10, hm⟩ := bnd hm
              refine w_calldi (pc := 98) (ws' := wX8 G a_t (upd x4.2.1 ((42 : Int32) + x4.1).toNatClampNeg (1 : Int32)) m_begun m_kept m_isKept m_past m_states m_text m_length r10.2.1 r10.2.2.1 r10.2.2.2.1 r10.2.2.2.2.1 r10.2.2.2.2.2.1 r10.2.2.2.2.2.2 m_visits m_wasSo x4.2.2.2.2.2.2.2.2.1 x4.2.2.2.2.2.2.2.2.2.1 x4.2.2.2.2.2.2.2.2.2.2 x2 m_place m_reason m_wide m_high) hX [0, 1, 2, 3, 4, 5, 6, 7, 8, 9, 10, 11, 12] (runV (rest := []) hX [0, 1, 2, 3, 4, 5, 6, 7, 8, 9, 10, 11, 12] (ctX8_wayFault G F a_t (upd x4.2.1 ((42 : Int32) + x4.1).toNatClampNeg (1 : Int32)) m_begun m_kept m_isKept m_past m_states m_text m_length x4.2.2.1 x4.2.2.2.1 x4.2.2.2.2.1 x4.2.2.2.2.2.1 x4.2.2.2.2.2.2.1 x4.2.2.2.2.2.2.2.1 m_visits m_wasSo x4.2.2.2.2.2.2.2.2.1 x4.2.2.2.2.2.2.2.2.2.1 x4.2.2.2.2.2.2.2.2.2.2 x2 m_place m_reason m_wide m_high r10 hr10) dX8_triesFor_98 0 gX8_triesFor_X8_wayFault rfl hyX8_wayFault ⟨Nat.le_of_ble_eq_true rfl, Nat.le_of_ble_eq_true rfl⟩ 0 rfl rfl rfl rfl (Nat.le_of_ble_eq_true rfl) ⟨Nat.le_of_ble_eq_true rfl, Nat.le_of_ble_eq_true rfl⟩ rfl rfl) rfl rfl rfl ⟨rfl, rfl⟩ ?_
              refine w_istore (pc := 101) hX dX8_triesFor_101 (Nat.le_of_ble_eq_true rfl) ?_
              refine w_aload_n (pc := 103) hX dX8_triesFor_103 rfl rfl ?_
              refine gf_X8_s (pc := 104) hX dX8_triesFor_104 hX8 (List.mem_of_getElem? (i := 3) rfl) 0 rfl rfl ?_
              refine w_bipush (pc := 107) hX dX8_triesFor_107 bp_42 ?_
              refine w_iload_n (pc := 109) hX dX8_triesFor_109 rfl rfl ?_
              refine w_iadd (pc := 110) hX dX8_triesFor_110 ?_
              refine w_iconst (pc := 111) hX dX8_triesFor_111 ic_0 ?_
              refine w_iast (pc := 112) hX dX8_triesFor_112 1 rfl hm (fun hm => ?_)
              refine w_iload (pc := 113) hX dX8_triesFor_113 rfl ?_
              refine w_aload_n (pc := 115) hX dX8_triesFor_115 rfl rfl ?_
              refine gf_X8_bestFault (pc := 116) hX dX8_triesFor_116 hX8 (List.mem_of_getElem? (i := 4) rfl) 0 rfl rfl ?_
              refine w_icmp_ge (pc := 119) (tgt := 138) hX dX8_triesFor_119 (by decide) hm (fun hm => ?_) (fun hm => ?_)
              ·
                exact w_lvs [true, true, true, false, false] (hj9 ((upd (upd x4.2.1 ((42 : Int32) + x4.1).toNatClampNeg (1 : Int32)) ((42 : Int32) + x4.1).toNatClampNeg (0 : Int32)), r10.2.1, r10.2.2.1, r10.2.2.2.1, r10.2.2.2.2.1, r10.2.2.2.2.2.1, r10.2.2.2.2.2.2, x4.2.2.2.2.2.2.2.2.1, x4.2.2.2.2.2.2.2.2.2.1, x4.2.2.2.2.2.2.2.2.2.2) hm)
              ·
                refine w_aload_n (pc := 122) hX dX8_triesFor_122 rfl rfl ?_
                refine w_iload (pc := 123) hX dX8_triesFor_123 rfl ?_
                refine pf_X8_bestFault (pc := 125) hX dX8_triesFor_125 hX8 (List.mem_of_getElem? (i := 4) rfl) 0 rfl rfl ?_
                refine w_aload_n (pc := 128) hX dX8_triesFor_128 rfl rfl ?_
                refine w_iload_n (pc := 129) hX dX8_triesFor_129 rfl rfl ?_
                refine pf_X8_bestAway (pc := 130) hX dX8_triesFor_130 hX8 (List.mem_of_getElem? (i := 5) rfl) 0 rfl rfl ?_
                refine w_aload_n (pc := 133) hX dX8_triesFor_133 rfl rfl ?_
                refine w_iload_n (pc := 134) hX dX8_triesFor_134 rfl rfl ?_
                refine pf_X8_bestMade (pc := 135) hX dX8_triesFor_135 hX8 (List.mem_of_getElem? (i := 6) rfl) 0 rfl rfl ?_
                exact w_lvs [true, true, true, false, false] (hj9 ((upd (upd x4.2.1 ((42 : Int32) + x4.1).toNatClampNeg (1 : Int32)) ((42 : Int32) + x4.1).toNatClampNeg (0 : Int32)), r10.2.1, r10.2.2.1, r10.2.2.2.1, r10.2.2.2.2.1, r10.2.2.2.2.2.1, r10.2.2.2.2.2.2, g1, x4.1, r10.1) hm)
  ·
    refine w_lvs [true, true, true, false, false] ?_
    refine lpr_ind (T := fun x11 : (Int32 × nF) => WW G X 0 0 (wX8 G a_t m_s m_begun m_kept m_isKept m_past m_states m_text m_length r1.1 r1.2 m_isOn m_steps m_wayCells m_turns m_visits m_wasSo m_bestAway m_bestMade m_bestFault x11.2 m_place m_reason m_wide m_high) [some (.ref (a_t 0)), some (.int g1), some (.int x11.1), none, none] 9 []) (fun self12 hself12 x11 hm => ?_) F ((0 : Int32), m_isHere) hm
    unfold mX8_triesFor_L9 at hm
    refine w_iload_n (pc := 9) hX dX8_triesFor_9 rfl rfl ?_
    refine w_aload_n (pc := 10) hX dX8_triesFor_10 rfl rfl ?_
    obtain ⟨r13, hr13, hm⟩ := bnd hm
    refine w_callpi (pc := 11) hX [0, 1, 2, 3, 4, 5, 6, 7, 8, 9, 10, 11, 12] (runV (rest := [.int x11.1]) hX [0, 1, 2, 3, 4, 5, 6, 7, 8, 9, 10, 11, 12] (ctX8_cells G a_t m_s m_begun m_kept m_isKept m_past m_states m_text m_length r1.1 r1.2 m_isOn m_steps m_wayCells m_turns m_visits m_wasSo m_bestAway m_bestMade m_bestFault x11.2 m_place m_reason m_wide m_high r13 hr13) dX8_triesFor_11 0 gX8_triesFor_X8_cells rfl hyX8_cells ⟨Nat.le_of_ble_eq_true rfl, Nat.le_of_ble_eq_true rfl⟩ 0 rfl rfl rfl rfl (Nat.le_of_ble_eq_true rfl) ⟨Nat.le_of_ble_eq_true rfl, Nat.le_of_ble_eq_true rfl⟩ rfl rfl) rfl ⟨rfl, rfl⟩ ?_
    refine w_icmp_ge (pc := 14) (tgt := 43) hX dX8_triesFor_14 (by decide) hm (fun hm => ?_) (fun hm => ?_)
    ·
      exact w_lvs [true, true, false, false, false] (hj3 x11.2 hm)
    ·
      refine w_aload_n (pc := 17) hX dX8_triesFor_17 rfl rfl ?_
      refine gf_X8_isHere (pc := 18) hX dX8_triesFor_18 hX8 (List.mem_of_getElem? (i := 1) rfl) 0 rfl rfl ?_
      refine w_iload_n (pc := 21) hX dX8_triesFor_21 rfl rfl ?_
      refine w_aload_n (pc := 22) hX dX8_triesFor_22 rfl rfl ?_
      refine gf_X8_far (pc := 23) hX dX8_triesFor_23 hX8 (List.mem_of_getElem? (i := 2) rfl) 0 rfl rfl ?_
      refine w_iload_n (pc := 26) hX dX8_triesFor_26 rfl rfl ?_
      refine w_iald (pc := 27) hX dX8_triesFor_27 6 rfl hm (fun hm => ?_)
      refine w_jn (T := fun x14 : Int32 => WW G X 0 0 (wX8 G a_t m_s m_begun m_kept m_isKept m_past m_states m_text m_length r1.1 r1.2 m_isOn m_steps m_wayCells m_turns m_visits m_wasSo m_bestAway m_bestMade m_bestFault x11.2 m_place m_reason m_wide m_high) [some (.ref (a_t 0)), some (.int g1), some (.int x11.1), none, none] 36 [.int x14, .int x11.1, .ref (a_t 12)]) hm (fun x14 hm => ?_) (fun j15 hj15 hm => ?_)
      ·
        refine w_zast (pc := 36) hX dX8_triesFor_36 12 rfl hm (fun hm => ?_)
        refine w_iinc (pc := 37) hX dX8_triesFor_37 rfl (Nat.le_of_ble_eq_true rfl) ic_1 ?_
        refine w_goto (pc := 40) (tgt := 9) hX dX8_triesFor_40 (by decide) ?_
        exact w_lvs [true, true, true, false, false] (hself12 (x11.1 + (1 : Int32), (upd x11.2 x11.1.toNatClampNeg (vp_nar .boolean x14))) hm)
      ·
        refine w_if_lt (pc := 28) (tgt := 35) hX dX8_triesFor_28 (by decide) hm (fun hm => ?_) (fun hm => ?_)
        ·
          refine w_iconst (pc := 35) hX dX8_triesFor_35 ic_0 ?_
          exact w_lvs [true, true, true, false, false] (hj15 (0 : Int32) hm)
        ·
          refine w_iconst (pc := 31) hX dX8_triesFor_31 ic_1 ?_
          refine w_goto (pc := 32) (tgt := 36) hX dX8_triesFor_32 (by decide) ?_
          exact w_lvs [true, true, true, false, false] (hj15 (1 : Int32) hm)

theorem lX8_looksForBest_X8 : ∀ w ∈ wsX80, w ∈ wsX8_looksForBest := in_at [54, 55, 56, 57, 58, 59, 60, 61, 62, 63, 64, 65, 66, 67, 68, 69, 70, 71, 72, 73, 74, 75, 76, 77] (by decide +kernel)
set_option maxHeartbeats 4000000 in
set_option maxRecDepth 100000 in
theorem ctX8_looksForBest (G : gT) (F : Nat) (a_t : Nat → Nat) (m_s : nF) (m_begun : nF) (m_kept : nF) (m_isKept : Int32) (m_past : nF) (m_states : Int32) (m_text : nF) (m_length : Int32) (m_far : nF) (m_queue : nF) (m_isOn : nF) (m_steps : nF) (m_wayCells : Int32) (m_turns : Int32) (m_visits : nF) (m_wasSo : nF) (m_bestAway : Int32) (m_bestMade : Int32) (m_bestFault : Int32) (m_isHere : nF) (m_place : Int32) (m_reason : Int32) (m_wide : Int32) (m_high : Int32) (o : (nF × nF × nF × nF × nF × Int32 × Int32 × Int32 × Int32 × Int32 × nF)) (hm : mX8_looksForBest F m_s m_far m_queue m_isOn m_steps m_wayCells m_turns m_bestAway m_bestMade m_bestFault m_isHere = some o) : CT G yX8_looksForBest wsX8_looksForBest rmX8_looksForBest [.ref (a_t 0)] (wX8 G a_t m_s m_begun m_kept m_isKept m_past m_states m_text m_length m_far m_queue m_isOn m_steps m_wayCells m_turns m_visits m_wasSo m_bestAway m_bestMade m_bestFault m_isHere m_place m_reason m_wide m_high) (fun v w => v = none ∧ w = wX8 G a_t o.1 m_begun m_kept m_isKept m_past m_states m_text m_length o.2.1 o.2.2.1 o.2.2.2.1 o.2.2.2.2.1 o.2.2.2.2.2.1 o.2.2.2.2.2.2.1 m_visits m_wasSo o.2.2.2.2.2.2.2.1 o.2.2.2.2.2.2.2.2.1 o.2.2.2.2.2.2.2.2.2.1 o.2.2.2.2.2.2.2.2.2.2 m_place m_reason m_wide m_high) := by
  refine CT_of (cc := cX8_looksForBest) (maxL := 2) (ret := none) 1 (by decide +kernel) rfl rfl (cat_ok rfl) (fun X hX hR hN => ?_)
  have hX : Ok G X cX8_looksForBest RX8 wsX8_looksForBest 2 rmX8_looksForBest := hX
  have hX8 : ∀ w ∈ wsX80, w ∈ wsX8_looksForBest := lX8_looksForBest_X8
  unfold mX8_looksForBest at hm
  refine w_aload_n (pc := 0) hX dX8_looksForBest_0 rfl rfl ?_
  refine w_ldc (pc := 1) hX dX8_looksForBest_1 (List.mem_of_getElem? (i := 1) rfl) ?_
  refine pf_X8_bestFault (pc := 3) hX dX8_looksForBest_3 hX8 (List.mem_of_getElem? (i := 2) rfl) 0 rfl rfl ?_
  refine w_iconst (pc := 6) hX dX8_looksForBest_6 ic_0 ?_
  refine w_istore_n (pc := 7) hX dX8_looksForBest_7 rfl (Nat.le_of_ble_eq_true rfl) ?_
  refine w_lvs [true, true] ?_
  refine lpr_ind (T := fun x1 : (Int32 × nF × nF × nF × nF × nF × Int32 × Int32 × Int32 × Int32 × Int32 × nF) => WW G X 0 0 (wX8 G a_t x1.2.1 m_begun m_kept m_isKept m_past m_states m_text m_length x1.2.2.1 x1.2.2.2.1 x1.2.2.2.2.1 x1.2.2.2.2.2.1 x1.2.2.2.2.2.2.1 x1.2.2.2.2.2.2.2.1 m_visits m_wasSo x1.2.2.2.2.2.2.2.2.1 x1.2.2.2.2.2.2.2.2.2.1 x1.2.2.2.2.2.2.2.2.2.2.1 x1.2.2.2.2.2.2.2.2.2.2.2 m_place m_reason m_wide m_high) [some (.ref (a_t 0)), some (.int x1.1)] 8 []) (fun self2 hself2 x1 hm => ?_) F ((0 : Int32), m_s, m_far, m_queue, m_isOn, m_steps, m_wayCells, m_turns, m_bestAway, m_bestMade, (1000000 : Int32), m_isHere) hm
  unfold mX8_looksForBest_L8 at hm
  refine w_iload_n (pc := 8) hX dX8_looksForBest_8 rfl rfl ?_
  refine w_iconst (pc := 9) hX dX8_looksForBest_9 ic_2 ?_
  refine w_aload_n (pc := 10) hX dX8_looksForBest_10 rfl rfl ?_
  obtain ⟨r3, hr3, hm⟩ := bnd hm
  refine w_callpi (pc := 11) hX [0, 1, 2, 3, 4, 5, 6, 7, 8, 9, 10, 11, 12] (runV (rest := [.int (2 : Int32), .int x1.1]) hX [0, 1, 2, 3, 4, 5, 6, 7, 8, 9, 10, 11, 12] (ctX8_cells G a_t x1.2.1 m_begun m_kept m_isKept m_past m_states m_text m_length x1.2.2.1 x1.2.2.2.1 x1.2.2.2.2.1 x1.2.2.2.2.2.1 x1.2.2.2.2.2.2.1 x1.2.2.2.2.2.2.2.1 m_visits m_wasSo x1.2.2.2.2.2.2.2.2.1 x1.2.2.2.2.2.2.2.2.2.1 x1.2.2.2.2.2.2.2.2.2.2.1 x1.2.2.2.2.2.2.2.2.2.2.2 m_place m_reason m_wide m_high r3 hr3) dX8_looksForBest_11 0 gX8_looksForBest_X8_cells rfl hyX8_cells ⟨Nat.le_of_ble_eq_true rfl, Nat.le_of_ble_eq_true rfl⟩ 0 rfl rfl rfl rfl (Nat.le_of_ble_eq_true rfl) ⟨Nat.le_of_ble_eq_true rfl, Nat.le_of_ble_eq_true rfl⟩ rfl rfl) rfl ⟨rfl, rfl⟩ ?_
  refine w_imul (pc := 14) hX dX8_looksForBest_14 ?_
  refine w_icmp_ge (pc := 15) (tgt := 62) hX dX8_looksForBest_15 (by decide) hm (fun hm => ?_) (fun hm => ?_)
  ·
    obtain rfl := som hm
    exact w_vret (pc := 62) hX hR dX8_looksForBest_62 ⟨rfl, rfl⟩
  ·
    refine w_aload_n (pc := 18) hX dX8_looksForBest_18 rfl rfl ?_
    refine gf_X8_s (pc := 19) hX dX8_looksForBest_19 hX8 (List.mem_of_getElem? (i := 3) rfl) 0 rfl rfl ?_
    refine w_bipush (pc := 22) hX dX8_looksForBest_22 bp_42 ?_
    refine w_iload_n (pc := 24) hX dX8_looksForBest_24 rfl rfl ?_
    refine w_iadd (pc := 25) hX dX8_looksForBest_25 ?_
    refine w_iald (pc := 26) hX dX8_looksForBest_26 1 rfl hm (fun hm => ?_)
    refine w_iconst (pc := 27) hX dX8_looksForBest_27 ic_1 ?_
    refine w_jn (T := fun x4 : (nF × nF × nF × nF × nF × Int32 × Int32 × Int32 × Int32 × Int32 × nF) => WW G X 0 0 (wX8 G a_t x4.1 m_begun m_kept m_isKept m_past m_states m_text m_length x4.2.1 x4.2.2.1 x4.2.2.2.1 x4.2.2.2.2.1 x4.2.2.2.2.2.1 x4.2.2.2.2.2.2.1 m_visits m_wasSo x4.2.2.2.2.2.2.2.1 x4.2.2.2.2.2.2.2.2.1 x4.2.2.2.2.2.2.2.2.2.1 x4.2.2.2.2.2.2.2.2.2.2 m_place m_reason m_wide m_high) [some (.ref (a_t 0)), some (.int x1.1)] 56 []) hm (fun x4 hm => ?_) (fun j5 hj5 hm => ?_)
    ·
      refine w_iinc (pc := 56) hX dX8_looksForBest_56 rfl (Nat.le_of_ble_eq_true rfl) ic_1 ?_
      refine w_goto (pc := 59) (tgt := 8) hX dX8_looksForBest_59 (by decide) ?_
      exact w_lvs [true, true] (hself2 (x1.1 + (1 : Int32), x4.1, x4.2.1, x4.2.2.1, x4.2.2.2.1, x4.2.2.2.2.1, x4.2.2.2.2.2.1, x4.2.2.2.2.2.2.1, x4.2.2.2.2.2.2.2.1, x4.2.2.2.2.2.2.2.2.1, x4.2.2.2.2.2.2.2.2.2.1, x4.2.2.2.2.2.2.2.2.2.2) hm)
    ·
      refine w_icmp_ne (pc := 28) (tgt := 56) hX dX8_looksForBest_28 (by decide) hm (fun hm => ?_) (fun hm => ?_)
      ·
        exact w_lvs [true, true] (hj5 (x1.2.1, x1.2.2.1, x1.2.2.2.1, x1.2.2.2.2.1, x1.2.2.2.2.2.1, x1.2.2.2.2.2.2.1, x1.2.2.2.2.2.2.2.1, x1.2.2.2.2.2.2.2.2.1, x1.2.2.2.2.2.2.2.2.2.1, x1.2.2.2.2.2.2.2.2.2.2.1, x1.2.2.2.2.2.2.2.2.2.2.2) hm)
      ·
        refine w_aload_n (pc := 31) hX dX8_looksForBest_31 rfl rfl ?_
        refine gf_X8_s (pc := 32) hX dX8_looksForBest_32 hX8 (List.mem_of_getElem? (i := 3) rfl) 0 rfl rfl ?_
        refine w_bipush (pc := 35) hX dX8_looksForBest_35 bp_42 ?_
        refine w_iload_n (pc := 37) hX dX8_looksForBest_37 rfl rfl ?_
        refine w_iadd (pc := 38) hX dX8_looksForBest_38 ?_
        refine w_iconst (pc := 39) hX dX8_looksForBest_39 ic_0 ?_
        refine w_iast (pc := 40) hX dX8_looksForBest_40 1 rfl hm (fun hm => ?_)
        refine w_aload_n (pc := 41) hX dX8_looksForBest_41 rfl rfl ?_
        refine w_iload_n (pc := 42) hX dX8_looksForBest_42 rfl rfl ?_
        obtain ⟨r6, hr6, hm⟩ := bnd hm
        refine w_calldv (pc := 43) (ws' := wX8 G a_t r6.1 m_begun m_kept m_isKept m_past m_states m_text m_length r6.2.1 r6.2.2.1 r6.2.2.2.1 r6.2.2.2.2.1 r6.2.2.2.2.2.1 r6.2.2.2.2.2.2.1 m_visits m_wasSo r6.2.2.2.2.2.2.2.1 r6.2.2.2.2.2.2.2.2.1 r6.2.2.2.2.2.2.2.2.2.1 r6.2.2.2.2.2.2.2.2.2.2 m_place m_reason m_wide m_high) hX [0, 1, 2, 3, 4, 5, 6, 7, 8, 9, 10, 11, 12] (runV (rest := []) hX [0, 1, 2, 3, 4, 5, 6, 7, 8, 9, 10, 11, 12] (ctX8_triesFor G F a_t (upd x1.2.1 ((42 : Int32) + x1.1).toNatClampNeg (0 : Int32)) m_begun m_kept m_isKept m_past m_states m_text m_length x1.2.2.1 x1.2.2.2.1 x1.2.2.2.2.1 x1.2.2.2.2.2.1 x1.2.2.2.2.2.2.1 x1.2.2.2.2.2.2.2.1 m_visits m_wasSo x1.2.2.2.2.2.2.2.2.1 x1.2.2.2.2.2.2.2.2.2.1 x1.2.2.2.2.2.2.2.2.2.2.1 x1.2.2.2.2.2.2.2.2.2.2.2 m_place m_reason m_wide m_high x1.1 r6 hr6) dX8_looksForBest_43 1 gX8_looksForBest_X8_triesFor rfl hyX8_triesFor ⟨Nat.le_of_ble_eq_true rfl, Nat.le_of_ble_eq_true rfl⟩ 0 rfl rfl rfl rfl (Nat.le_of_ble_eq_true rfl) ⟨Nat.le_of_ble_eq_true rfl, Nat.le_of_ble_eq_true rfl⟩ rfl rfl) rfl rfl rfl ⟨rfl, rfl⟩ ?_
        refine w_aload_n (pc := 46) hX dX8_looksForBest_46 rfl rfl ?_
        refine gf_X8_s (pc := 47) hX dX8_looksForBest_47 hX8 (List.mem_of_getElem? (i := 3) rfl) 0 rfl rfl ?_
        refine w_bipush (pc := 50) hX dX8_looksForBest_50 bp_42 ?_
        refine w_iload_n (pc := 52) hX dX8_looksForBest_52 rfl rfl ?_
        refine w_iadd (pc := 53) hX dX8_looksForBest_53 ?_
        refine w_iconst (pc := 54) hX dX8_looksForBest_54 ic_1 ?_
        refine w_iast (pc := 55) hX dX8_looksForBest_55 1 rfl hm (fun hm => ?_)
        exact w_lvs [true, true] (hj5 ((upd r6.1 ((42 : Int32) + x1.1).toNatClampNeg (1 : Int32)), r6.2.1, r6.2.2.1, r6.2.2.2.1, r6.2.2.2.2.1, r6.2.2.2.2.2.1, r6.2.2.2.2.2.2.1, r6.2.2.2.2.2.2.2.1, r6.2.2.2.2.2.2.2.2.1, r6.2.2.2.2.2.2.2.2.2.1, r6.2.2.2.2.2.2.2.2.2.2) hm)

theorem lX8_exchanges_X8 : ∀ w ∈ wsX80, w ∈ wsX8_exchanges := in_at [4, 5, 6, 7, 8, 9, 10, 11, 12, 13, 14, 15, 16, 17, 18, 19, 20, 21, 22, 23, 24, 25, 26, 27] (by decide +kernel)
set_option maxHeartbeats 4000000 in
set_option maxRecDepth 100000 in
theorem ctX8_exchanges (G : gT) (a_t : Nat → Nat) (m_s : nF) (m_begun : nF) (m_kept : nF) (m_isKept : Int32) (m_past : nF) (m_states : Int32) (m_text : nF) (m_length : Int32) (m_far : nF) (m_queue : nF) (m_isOn : nF) (m_steps : nF) (m_wayCells : Int32) (m_turns : Int32) (m_visits : nF) (m_wasSo : nF) (m_bestAway : Int32) (m_bestMade : Int32) (m_bestFault : Int32) (m_isHere : nF) (m_place : Int32) (m_reason : Int32) (m_wide : Int32) (m_high : Int32) (o : nF) (hm : mX8_exchanges m_s m_bestAway m_bestMade = some o) : CT G yX8_exchanges wsX8_exchanges rmX8_exchanges [.ref (a_t 0)] (wX8 G a_t m_s m_begun m_kept m_isKept m_past m_states m_text m_length m_far m_queue m_isOn m_steps m_wayCells m_turns m_visits m_wasSo m_bestAway m_bestMade m_bestFault m_isHere m_place m_reason m_wide m_high) (fun v w => v = none ∧ w = wX8 G a_t o m_begun m_kept m_isKept m_past m_states m_text m_length m_far m_queue m_isOn m_steps m_wayCells m_turns m_visits m_wasSo m_bestAway m_bestMade m_bestFault m_isHere m_place m_reason m_wide m_high) := by
  refine CT_of (cc := cX8_exchanges) (maxL := 1) (ret := none) 0 (by decide +kernel) rfl rfl (cat_ok rfl) (fun X hX hR hN => ?_)
  have hX : Ok G X cX8_exchanges RX8 wsX8_exchanges 1 rmX8_exchanges := hX
  have hX8 : ∀ w ∈ wsX80, w ∈ wsX8_exchanges := lX8_exchanges_X8
  unfold mX8_exchanges at hm
  refine w_aload_n (pc := 0) hX dX8_exchanges_0 rfl rfl ?_
  refine gf_X8_s (pc := 1) hX dX8_exchanges_1 hX8 (List.mem_of_getElem? (i := 1) rfl) 0 rfl rfl ?_
  refine w_bipush (pc := 4) hX dX8_exchanges_4 bp_42 ?_
  refine w_aload_n (pc := 6) hX dX8_exchanges_6 rfl rfl ?_
  refine gf_X8_bestAway (pc := 7) hX dX8_exchanges_7 hX8 (List.mem_of_getElem? (i := 2) rfl) 0 rfl rfl ?_
  refine w_iadd (pc := 10) hX dX8_exchanges_10 ?_
  refine w_iconst (pc := 11) hX dX8_exchanges_11 ic_0 ?_
  refine w_iast (pc := 12) hX dX8_exchanges_12 1 rfl hm (fun hm => ?_)
  refine w_aload_n (pc := 13) hX dX8_exchanges_13 rfl rfl ?_
  refine gf_X8_s (pc := 14) hX dX8_exchanges_14 hX8 (List.mem_of_getElem? (i := 1) rfl) 0 rfl rfl ?_
  refine w_bipush (pc := 17) hX dX8_exchanges_17 bp_42 ?_
  refine w_aload_n (pc := 19) hX dX8_exchanges_19 rfl rfl ?_
  refine gf_X8_bestMade (pc := 20) hX dX8_exchanges_20 hX8 (List.mem_of_getElem? (i := 3) rfl) 0 rfl rfl ?_
  refine w_iadd (pc := 23) hX dX8_exchanges_23 ?_
  refine w_iconst (pc := 24) hX dX8_exchanges_24 ic_1 ?_
  refine w_iast (pc := 25) hX dX8_exchanges_25 1 rfl hm (fun hm => ?_)
  obtain rfl := som hm
  exact w_vret (pc := 26) hX hR dX8_exchanges_26 ⟨rfl, rfl⟩

theorem lX8_build_X8 : ∀ w ∈ wsX80, w ∈ wsX8_build := in_at [56, 57, 58, 59, 60, 61, 62, 63, 64, 65, 66, 67, 68, 69, 70, 71, 72, 73, 74, 75, 76, 77, 78, 79] (by decide +kernel)
set_option maxHeartbeats 4000000 in
set_option maxRecDepth 100000 in
theorem ctX8_build (G : gT) (F : Nat) (a_t : Nat → Nat) (m_s : nF) (m_begun : nF) (m_kept : nF) (m_isKept : Int32) (m_past : nF) (m_states : Int32) (m_text : nF) (m_length : Int32) (m_far : nF) (m_queue : nF) (m_isOn : nF) (m_steps : nF) (m_wayCells : Int32) (m_turns : Int32) (m_visits : nF) (m_wasSo : nF) (m_bestAway : Int32) (m_bestMade : Int32) (m_bestFault : Int32) (m_isHere : nF) (m_place : Int32) (m_reason : Int32) (m_wide : Int32) (m_high : Int32) (o : (Int32 × nF × nF × nF × Int32 × nF × nF)) (hm : mX8_build F m_s m_begun m_past m_states m_far m_queue = some o) : CT G yX8_build wsX8_build rmX8_build [.ref (a_t 0)] (wX8 G a_t m_s m_begun m_kept m_isKept m_past m_states m_text m_length m_far m_queue m_isOn m_steps m_wayCells m_turns m_visits m_wasSo m_bestAway m_bestMade m_bestFault m_isHere m_place m_reason m_wide m_high) (fun v w => v = some (.int o.1) ∧ w = wX8 G a_t o.2.1 o.2.2.1 m_kept m_isKept o.2.2.2.1 o.2.2.2.2.1 m_text m_length o.2.2.2.2.2.1 o.2.2.2.2.2.2 m_isOn m_steps m_wayCells m_turns m_visits m_wasSo m_bestAway m_bestMade m_bestFault m_isHere m_place m_reason m_wide m_high) := by
  refine CT_of (cc := cX8_build) (maxL := 7) (ret := (some .int)) 6 (by decide +kernel) rfl rfl (cat_ok rfl) (fun X hX hR hN => ?_)
  have hX : Ok G X cX8_build RX8 wsX8_build 7 rmX8_build := hX
  have hX8 : ∀ w ∈ wsX80, w ∈ wsX8_build := lX8_build_X8
  unfold mX8_build at hm
  refine w_aload_n (pc := 0) hX dX8_build_0 rfl rfl ?_
  obtain ⟨r1, hr1, hm⟩ := bnd hm
  refine w_calldv (pc := 1) (ws' := wX8 G a_t m_s r1 m_kept m_isKept m_past m_states m_text m_length m_far m_queue m_isOn m_steps m_wayCells m_turns m_visits m_wasSo m_bestAway m_bestMade m_bestFault m_isHere m_place m_reason m_wide m_high) hX [0, 1, 2, 3, 4, 5, 6, 7, 8, 9, 10, 11, 12] (runV (rest := []) hX [0, 1, 2, 3, 4, 5, 6, 7, 8, 9, 10, 11, 12] (ctX8_begins G F a_t m_s m_begun m_kept m_isKept m_past m_states m_text m_length m_far m_queue m_isOn m_steps m_wayCells m_turns m_visits m_wasSo m_bestAway m_bestMade m_bestFault m_isHere m_place m_reason m_wide m_high r1 hr1) dX8_build_1 0 gX8_build_X8_begins rfl hyX8_begins ⟨Nat.le_of_ble_eq_true rfl, Nat.le_of_ble_eq_true rfl⟩ 0 rfl rfl rfl rfl (Nat.le_of_ble_eq_true rfl) ⟨Nat.le_of_ble_eq_true rfl, Nat.le_of_ble_eq_true rfl⟩ rfl rfl) rfl rfl rfl ⟨rfl, rfl⟩ ?_
  refine w_aload_n (pc := 4) hX dX8_build_4 rfl rfl ?_
  obtain ⟨r2, hr2, hm⟩ := bnd hm
  refine w_callpi (pc := 5) hX [0, 1, 2, 3, 4, 5, 6, 7, 8, 9, 10, 11, 12] (runV (rest := []) hX [0, 1, 2, 3, 4, 5, 6, 7, 8, 9, 10, 11, 12] (ctX8_isWhole G F a_t m_s r1 m_kept m_isKept m_past m_states m_text m_length m_far m_queue m_isOn m_steps m_wayCells m_turns m_visits m_wasSo m_bestAway m_bestMade m_bestFault m_isHere m_place m_reason m_wide m_high r2 hr2) dX8_build_5 0 gX8_build_X8_isWhole rfl hyX8_isWhole ⟨Nat.le_of_ble_eq_true rfl, Nat.le_of_ble_eq_true rfl⟩ 0 rfl rfl rfl rfl (Nat.le_of_ble_eq_true rfl) ⟨Nat.le_of_ble_eq_true rfl, Nat.le_of_ble_eq_true rfl⟩ rfl rfl) rfl ⟨rfl, rfl⟩ ?_
  refine w_if_eq (pc := 8) (tgt := 14) hX dX8_build_8 (by decide) hm (fun hm => ?_) (fun hm => ?_)
  ·
    refine w_iconst (pc := 14) hX dX8_build_14 ic_0 ?_
    refine w_istore_n (pc := 15) hX dX8_build_15 rfl (Nat.le_of_ble_eq_true rfl) ?_
    refine w_jn (T := fun x3 : (Int32 × nF × nF × nF) => WW G X 0 0 (wX8 G a_t x3.2.1 r1 m_kept m_isKept m_past m_states m_text m_length x3.2.2.1 x3.2.2.2 m_isOn m_steps m_wayCells m_turns m_visits m_wasSo m_bestAway m_bestMade m_bestFault m_isHere m_place m_reason m_wide m_high) [some (.ref (a_t 0)), some (.int x3.1), none, none, none, none, none] 130 []) hm (fun x3 hm => ?_) (fun j4 hj4 hm => ?_)
    ·
      unfold mX8_build_K130 at hm
      refine w_aload_n (pc := 130) hX dX8_build_130 rfl rfl ?_
      refine w_iload_n (pc := 131) hX dX8_build_131 rfl rfl ?_
      obtain ⟨r5, hr5, hm⟩ := bnd hm
      refine w_calldi (pc := 132) (ws' := wX8 G a_t r5.2.1 r1 m_kept m_isKept r5.2.2.1 r5.2.2.2 m_text m_length x3.2.2.1 x3.2.2.2 m_isOn m_steps m_wayCells m_turns m_visits m_wasSo m_bestAway m_bestMade m_bestFault m_isHere m_place m_reason m_wide m_high) hX [0, 1, 2, 3, 4, 5, 6, 7, 8, 9, 10, 11, 12] (runV (rest := []) hX [0, 1, 2, 3, 4, 5, 6, 7, 8, 9, 10, 11, 12] (ctX8_acted G F a_t x3.2.1 r1 m_kept m_isKept m_past m_states m_text m_length x3.2.2.1 x3.2.2.2 m_isOn m_steps m_wayCells m_turns m_visits m_wasSo m_bestAway m_bestMade m_bestFault m_isHere m_place m_reason m_wide m_high x3.1 r5 hr5) dX8_build_132 1 gX8_build_X8_acted rfl hyX8_acted ⟨Nat.le_of_ble_eq_true rfl, Nat.le_of_ble_eq_true rfl⟩ 0 rfl rfl rfl rfl (Nat.le_of_ble_eq_true rfl) ⟨Nat.le_of_ble_eq_true rfl, Nat.le_of_ble_eq_true rfl⟩ rfl rfl) rfl rfl rfl ⟨rfl, rfl⟩ ?_
      obtain rfl := som hm
      exact w_iret (pc := 135) hX hR dX8_build_135 ⟨rfl, rfl⟩
    ·
      refine w_lvs [true, true, false, false, false, false, false] ?_
      refine lpr_ind (T := fun x6 : (Int32 × nF × nF × nF) => WW G X 0 0 (wX8 G a_t x6.2.1 r1 m_kept m_isKept m_past m_states m_text m_length x6.2.2.1 x6.2.2.2 m_isOn m_steps m_wayCells m_turns m_visits m_wasSo m_bestAway m_bestMade m_bestFault m_isHere m_place m_reason m_wide m_high) [some (.ref (a_t 0)), some (.int x6.1), none, none, none, none, none] 16 []) (fun self7 hself7 x6 hm => ?_) F ((0 : Int32), m_s, m_far, m_queue) hm
      unfold mX8_build_L16 at hm
      refine w_aload_n (pc := 16) hX dX8_build_16 rfl rfl ?_
      obtain ⟨r8, hr8, hm⟩ := bnd hm
      refine w_callpi (pc := 17) hX [0, 1, 2, 3, 4, 5, 6, 7, 8, 9, 10, 11, 12] (runV (rest := []) hX [0, 1, 2, 3, 4, 5, 6, 7, 8, 9, 10, 11, 12] (ctX8_isWhole G F a_t x6.2.1 r1 m_kept m_isKept m_past m_states m_text m_length x6.2.2.1 x6.2.2.2 m_isOn m_steps m_wayCells m_turns m_visits m_wasSo m_bestAway m_bestMade m_bestFault m_isHere m_place m_reason m_wide m_high r8 hr8) dX8_build_17 0 gX8_build_X8_isWhole rfl hyX8_isWhole ⟨Nat.le_of_ble_eq_true rfl, Nat.le_of_ble_eq_true rfl⟩ 0 rfl rfl rfl rfl (Nat.le_of_ble_eq_true rfl) ⟨Nat.le_of_ble_eq_true rfl, Nat.le_of_ble_eq_true rfl⟩ rfl rfl) rfl ⟨rfl, rfl⟩ ?_
      refine w_if_ne (pc := 20) (tgt := 130) hX dX8_build_20 (by decide) hm (fun hm => ?_) (fun hm => ?_)
      ·
        exact w_lvs [true, true, false, false, false, false, false] (hj4 (x6.1, x6.2.1, x6.2.2.1, x6.2.2.2) hm)
      ·
        refine w_iconst (pc := 23) hX dX8_build_23 ic_m1 ?_
        refine w_istore_n (pc := 24) hX dX8_build_24 rfl (Nat.le_of_ble_eq_true rfl) ?_
        refine w_iconst (pc := 25) hX dX8_build_25 ic_m1 ?_
        refine w_istore_n (pc := 26) hX dX8_build_26 rfl (Nat.le_of_ble_eq_true rfl) ?_
        refine w_iconst (pc := 27) hX dX8_build_27 ic_0 ?_
        refine w_istore (pc := 28) hX dX8_build_28 (Nat.le_of_ble_eq_true rfl) ?_
        refine w_jn (T := fun x9 : (Int32 × nF × nF) => WW G X 0 0 (wX8 G a_t x6.2.1 r1 m_kept m_isKept m_past m_states m_text m_length x9.2.1 x9.2.2 m_isOn m_steps m_wayCells m_turns m_visits m_wasSo m_bestAway m_bestMade m_bestFault m_isHere m_place m_reason m_wide m_high) [some (.ref (a_t 0)), some (.int x6.1), some (.int x9.1), none, none, none, none] 114 []) hm (fun x9 hm => ?_) (fun j10 hj10 hm => ?_)
        ·
          unfold mX8_build_K114 at hm
          refine w_aload_n (pc := 114) hX dX8_build_114 rfl rfl ?_
          refine gf_X8_s (pc := 115) hX dX8_build_115 hX8 (List.mem_of_getElem? (i := 1) rfl) 0 rfl rfl ?_
          refine w_bipush (pc := 118) hX dX8_build_118 bp_42 ?_
          refine w_iload_n (pc := 120) hX dX8_build_120 rfl rfl ?_
          refine w_iadd (pc := 121) hX dX8_build_121 ?_
          refine w_iconst (pc := 122) hX dX8_build_122 ic_1 ?_
          refine w_iast (pc := 123) hX dX8_build_123 1 rfl hm (fun hm => ?_)
          refine w_iinc (pc := 124) hX dX8_build_124 rfl (Nat.le_of_ble_eq_true rfl) ic_1 ?_
          refine w_goto (pc := 127) (tgt := 16) hX dX8_build_127 (by decide) ?_
          exact w_lvs [true, true, false, false, false, false, false] (hself7 (x6.1 + (1 : Int32), (upd x6.2.1 ((42 : Int32) + x9.1).toNatClampNeg (1 : Int32)), x9.2.1, x9.2.2) hm)
        ·
          refine w_lvs [true, true, true, true, true, false, false] ?_
          refine lpr_ind (T := fun x11 : (Int32 × Int32 × Int32 × nF × nF) => WW G X 0 0 (wX8 G a_t x6.2.1 r1 m_kept m_isKept m_past m_states m_text m_length x11.2.2.2.1 x11.2.2.2.2 m_isOn m_steps m_wayCells m_turns m_visits m_wasSo m_bestAway m_bestMade m_bestFault m_isHere m_place m_reason m_wide m_high) [some (.ref (a_t 0)), some (.int x6.1), some (.int x11.1), some (.int x11.2.1), some (.int x11.2.2.1), none, none] 30 []) (fun self12 hself12 x11 hm => ?_) F ((-1 : Int32), (-1 : Int32), (0 : Int32), x6.2.2.1, x6.2.2.2) hm
          unfold mX8_build_L30 at hm
          refine w_iload (pc := 30) hX dX8_build_30 rfl ?_
          refine w_iconst (pc := 32) hX dX8_build_32 ic_2 ?_
          refine w_aload_n (pc := 33) hX dX8_build_33 rfl rfl ?_
          obtain ⟨r13, hr13, hm⟩ := bnd hm
          refine w_callpi (pc := 34) hX [0, 1, 2, 3, 4, 5, 6, 7, 8, 9, 10, 11, 12] (runV (rest := [.int (2 : Int32), .int x11.2.2.1]) hX [0, 1, 2, 3, 4, 5, 6, 7, 8, 9, 10, 11, 12] (ctX8_cells G a_t x6.2.1 r1 m_kept m_isKept m_past m_states m_text m_length x11.2.2.2.1 x11.2.2.2.2 m_isOn m_steps m_wayCells m_turns m_visits m_wasSo m_bestAway m_bestMade m_bestFault m_isHere m_place m_reason m_wide m_high r13 hr13) dX8_build_34 0 gX8_build_X8_cells rfl hyX8_cells ⟨Nat.le_of_ble_eq_true rfl, Nat.le_of_ble_eq_true rfl⟩ 0 rfl rfl rfl rfl (Nat.le_of_ble_eq_true rfl) ⟨Nat.le_of_ble_eq_true rfl, Nat.le_of_ble_eq_true rfl⟩ rfl rfl) rfl ⟨rfl, rfl⟩ ?_
          refine w_imul (pc := 37) hX dX8_build_37 ?_
          refine w_icmp_ge (pc := 38) (tgt := 114) hX dX8_build_38 (by decide) hm (fun hm => ?_) (fun hm => ?_)
          ·
            exact w_lvs [true, true, true, false, false, false, false] (hj10 (x11.1, x11.2.2.2.1, x11.2.2.2.2) hm)
          ·
            refine w_aload_n (pc := 41) hX dX8_build_41 rfl rfl ?_
            refine w_iload (pc := 42) hX dX8_build_42 rfl ?_
            obtain ⟨r14, hr14, hm⟩ := bnd hm
            refine w_callpi (pc := 44) hX [0, 1, 2, 3, 4, 5, 6, 7, 8, 9, 10, 11, 12] (runV (rest := []) hX [0, 1, 2, 3, 4, 5, 6, 7, 8, 9, 10, 11, 12] (ctX8_second G a_t x6.2.1 r1 m_kept m_isKept m_past m_states m_text m_length x11.2.2.2.1 x11.2.2.2.2 m_isOn m_steps m_wayCells m_turns m_visits m_wasSo m_bestAway m_bestMade m_bestFault m_isHere m_place m_reason m_wide m_high x11.2.2.1 r14 hr14) dX8_build_44 1 gX8_build_X8_second rfl hyX8_second ⟨Nat.le_of_ble_eq_true rfl, Nat.le_of_ble_eq_true rfl⟩ 0 rfl rfl rfl rfl (Nat.le_of_ble_eq_true rfl) ⟨Nat.le_of_ble_eq_true rfl, Nat.le_of_ble_eq_true rfl⟩ rfl rfl) rfl ⟨rfl, rfl⟩ ?_
            refine w_istore (pc := 47) hX dX8_build_47 (Nat.le_of_ble_eq_true rfl) ?_
            refine w_iload (pc := 49) hX dX8_build_49 rfl ?_
            refine w_jn (T := fun x15 : Int32 => WW G X 0 0 (wX8 G a_t x6.2.1 r1 m_kept m_isKept m_past m_states m_text m_length x11.2.2.2.1 x11.2.2.2.2 m_isOn m_steps m_wayCells m_turns m_visits m_wasSo m_bestAway m_bestMade m_bestFault m_isHere m_place m_reason m_wide m_high) [some (.ref (a_t 0)), some (.int x6.1), some (.int x11.1), some (.int x11.2.1), some (.int x11.2.2.1), some (.int r14), none] 81 [.int x15]) hm (fun x15 hm => ?_) (fun j16 hj16 hm => ?_)
            ·
              refine w_istore (pc := 81) hX dX8_build_81 (Nat.le_of_ble_eq_true rfl) ?_
              refine w_iload (pc := 83) hX dX8_build_83 rfl ?_
              refine w_iload_n (pc := 85) hX dX8_build_85 rfl rfl ?_
              refine w_jn (T := fun x17 : (Int32 × Int32 × nF × nF) => WW G X 0 0 (wX8 G a_t x6.2.1 r1 m_kept m_isKept m_past m_states m_text m_length x17.2.2.1 x17.2.2.2 m_isOn m_steps m_wayCells m_turns m_visits m_wasSo m_bestAway m_bestMade m_bestFault m_isHere m_place m_reason m_wide m_high) [some (.ref (a_t 0)), some (.int x6.1), some (.int x17.1), some (.int x17.2.1), some (.int x11.2.2.1), none, none] 108 []) hm (fun x17 hm => ?_) (fun j18 hj18 hm => ?_)
              ·
                refine w_iinc (pc := 108) hX dX8_build_108 rfl (Nat.le_of_ble_eq_true rfl) ic_1 ?_
                refine w_goto (pc := 111) (tgt := 30) hX dX8_build_111 (by decide) ?_
                exact w_lvs [true, true, true, true, true, false, false] (hself12 (x17.1, x17.2.1, x11.2.2.1 + (1 : Int32), x17.2.2.1, x17.2.2.2) hm)
              ·
                refine w_icmp_le (pc := 86) (tgt := 108) hX dX8_build_86 (by decide) hm (fun hm => ?_) (fun hm => ?_)
                ·
                  exact w_lvs [true, true, true, true, true, false, false] (hj18 (x11.1, x11.2.1, x11.2.2.2.1, x11.2.2.2.2) hm)
                ·
                  refine w_aload_n (pc := 89) hX dX8_build_89 rfl rfl ?_
                  refine w_iload (pc := 90) hX dX8_build_90 rfl ?_
                  refine w_iconst (pc := 92) hX dX8_build_92 ic_2 ?_
                  refine w_idiv (pc := 93) hX dX8_build_93 hm (fun hm => ?_)
                  refine w_iload (pc := 94) hX dX8_build_94 rfl ?_
                  obtain ⟨r19, hr19, hm⟩ := bnd hm
                  refine w_calldi (pc := 96) (ws' := wX8 G a_t x6.2.1 r1 m_kept m_isKept m_past m_states m_text m_length r19.2.1 r19.2.2 m_isOn m_steps m_wayCells m_turns m_visits m_wasSo m_bestAway m_bestMade m_bestFault m_isHere m_place m_reason m_wide m_high) hX [0, 1, 2, 3, 4, 5, 6, 7, 8, 9, 10, 11, 12] (runV (rest := []) hX [0, 1, 2, 3, 4, 5, 6, 7, 8, 9, 10, 11, 12] (ctX8_areJoined G F a_t x6.2.1 r1 m_kept m_isKept m_past m_states m_text m_length x11.2.2.2.1 x11.2.2.2.2 m_isOn m_steps m_wayCells m_turns m_visits m_wasSo m_bestAway m_bestMade m_bestFault m_isHere m_place m_reason m_wide m_high (x11.2.2.1 / (2 : Int32)) r14 r19 hr19) dX8_build_96 2 gX8_build_X8_areJoined rfl hyX8_areJoined ⟨Nat.le_of_ble_eq_true rfl, Nat.le_of_ble_eq_true rfl⟩ 0 rfl rfl rfl rfl (Nat.le_of_ble_eq_true rfl) ⟨Nat.le_of_ble_eq_true rfl, Nat.le_of_ble_eq_true rfl⟩ rfl rfl) rfl rfl rfl ⟨rfl, rfl⟩ ?_
                  refine w_if_ne (pc := 99) (tgt := 108) hX dX8_build_99 (by decide) hm (fun hm => ?_) (fun hm => ?_)
                  ·
                    exact w_lvs [true, true, true, true, true, false, false] (hj18 (x11.1, x11.2.1, r19.2.1, r19.2.2) hm)
                  ·
                    refine w_iload (pc := 102) hX dX8_build_102 rfl ?_
                    refine w_istore_n (pc := 104) hX dX8_build_104 rfl (Nat.le_of_ble_eq_true rfl) ?_
                    refine w_iload (pc := 105) hX dX8_build_105 rfl ?_
                    refine w_istore_n (pc := 107) hX dX8_build_107 rfl (Nat.le_of_ble_eq_true rfl) ?_
                    exact w_lvs [true, true, true, true, true, false, false] (hj18 (x11.2.2.1, x15, r19.2.1, r19.2.2) hm)
            ·
              refine w_if_ge (pc := 51) (tgt := 58) hX dX8_build_51 (by decide) hm (fun hm => ?_) (fun hm => ?_)
              ·
                refine w_aload_n (pc := 58) hX dX8_build_58 rfl rfl ?_
                refine gf_X8_s (pc := 59) hX dX8_build_59 hX8 (List.mem_of_getElem? (i := 1) rfl) 0 rfl rfl ?_
                refine w_bipush (pc := 62) hX dX8_build_62 bp_6 ?_
                refine w_iload (pc := 64) hX dX8_build_64 rfl ?_
                refine w_iconst (pc := 66) hX dX8_build_66 ic_2 ?_
                refine w_idiv (pc := 67) hX dX8_build_67 hm (fun hm => ?_)
                refine w_iadd (pc := 68) hX dX8_build_68 ?_
                refine w_iald (pc := 69) hX dX8_build_69 1 rfl hm (fun hm => ?_)
                refine w_aload_n (pc := 70) hX dX8_build_70 rfl rfl ?_
                refine gf_X8_s (pc := 71) hX dX8_build_71 hX8 (List.mem_of_getElem? (i := 1) rfl) 0 rfl rfl ?_
                refine w_bipush (pc := 74) hX dX8_build_74 bp_6 ?_
                refine w_iload (pc := 76) hX dX8_build_76 rfl ?_
                refine w_iadd (pc := 78) hX dX8_build_78 ?_
                refine w_iald (pc := 79) hX dX8_build_79 1 rfl hm (fun hm => ?_)
                refine w_iadd (pc := 80) hX dX8_build_80 ?_
                exact w_lvs [true, true, true, true, true, true, false] (hj16 ((x6.2.1 ((6 : Int32) + (x11.2.2.1 / (2 : Int32))).toNatClampNeg) + (x6.2.1 ((6 : Int32) + r14).toNatClampNeg)) hm)
              ·
                refine w_iconst (pc := 54) hX dX8_build_54 ic_m1 ?_
                refine w_goto (pc := 55) (tgt := 81) hX dX8_build_55 (by decide) ?_
                exact w_lvs [true, true, true, true, true, true, false] (hj16 (-1 : Int32) hm)
  ·
    refine w_bipush (pc := 11) hX dX8_build_11 bp_m2 ?_
    obtain rfl := som hm
    exact w_iret (pc := 13) hX hR dX8_build_13 ⟨rfl, rfl⟩

theorem lX8_exchange_X8 : ∀ w ∈ wsX80, w ∈ wsX8_exchange := in_at [85, 86, 87, 88, 89, 90, 91, 92, 93, 94, 95, 96, 97, 98, 99, 100, 101, 102, 103, 104, 105, 106, 107, 108] (by decide +kernel)
set_option maxHeartbeats 4000000 in
set_option maxRecDepth 100000 in
theorem ctX8_exchange (G : gT) (F : Nat) (a_t : Nat → Nat) (m_s : nF) (m_begun : nF) (m_kept : nF) (m_isKept : Int32) (m_past : nF) (m_states : Int32) (m_text : nF) (m_length : Int32) (m_far : nF) (m_queue : nF) (m_isOn : nF) (m_steps : nF) (m_wayCells : Int32) (m_turns : Int32) (m_visits : nF) (m_wasSo : nF) (m_bestAway : Int32) (m_bestMade : Int32) (m_bestFault : Int32) (m_isHere : nF) (m_place : Int32) (m_reason : Int32) (m_wide : Int32) (m_high : Int32) (o : (Int32 × nF × nF × nF × Int32 × nF × nF × nF × nF × Int32 × Int32 × Int32 × Int32 × Int32 × nF)) (hm : mX8_exchange F m_s m_begun m_past m_states m_far m_queue m_isOn m_steps m_wayCells m_turns m_bestAway m_bestMade m_bestFault m_isHere = some o) : CT G yX8_exchange wsX8_exchange rmX8_exchange [.ref (a_t 0)] (wX8 G a_t m_s m_begun m_kept m_isKept m_past m_states m_text m_length m_far m_queue m_isOn m_steps m_wayCells m_turns m_visits m_wasSo m_bestAway m_bestMade m_bestFault m_isHere m_place m_reason m_wide m_high) (fun v w => v = some (.int o.1) ∧ w = wX8 G a_t o.2.1 o.2.2.1 m_kept m_isKept o.2.2.2.1 o.2.2.2.2.1 m_text m_length o.2.2.2.2.2.1 o.2.2.2.2.2.2.1 o.2.2.2.2.2.2.2.1 o.2.2.2.2.2.2.2.2.1 o.2.2.2.2.2.2.2.2.2.1 o.2.2.2.2.2.2.2.2.2.2.1 m_visits m_wasSo o.2.2.2.2.2.2.2.2.2.2.2.1 o.2.2.2.2.2.2.2.2.2.2.2.2.1 o.2.2.2.2.2.2.2.2.2.2.2.2.2.1 o.2.2.2.2.2.2.2.2.2.2.2.2.2.2 m_place m_reason m_wide m_high) := by
  refine CT_of (cc := cX8_exchange) (maxL := 1) (ret := (some .int)) 0 (by decide +kernel) rfl rfl (cat_ok rfl) (fun X hX hR hN => ?_)
  have hX : Ok G X cX8_exchange RX8 wsX8_exchange 1 rmX8_exchange := hX
  have hX8 : ∀ w ∈ wsX80, w ∈ wsX8_exchange := lX8_exchange_X8
  unfold mX8_exchange at hm
  refine w_aload_n (pc := 0) hX dX8_exchange_0 rfl rfl ?_
  obtain ⟨r1, hr1, hm⟩ := bnd hm
  refine w_calldv (pc := 1) (ws' := wX8 G a_t m_s r1 m_kept m_isKept m_past m_states m_text m_length m_far m_queue m_isOn m_steps m_wayCells m_turns m_visits m_wasSo m_bestAway m_bestMade m_bestFault m_isHere m_place m_reason m_wide m_high) hX [0, 1, 2, 3, 4, 5, 6, 7, 8, 9, 10, 11, 12] (runV (rest := []) hX [0, 1, 2, 3, 4, 5, 6, 7, 8, 9, 10, 11, 12] (ctX8_begins G F a_t m_s m_begun m_kept m_isKept m_past m_states m_text m_length m_far m_queue m_isOn m_steps m_wayCells m_turns m_visits m_wasSo m_bestAway m_bestMade m_bestFault m_isHere m_place m_reason m_wide m_high r1 hr1) dX8_exchange_1 0 gX8_exchange_X8_begins rfl hyX8_begins ⟨Nat.le_of_ble_eq_true rfl, Nat.le_of_ble_eq_true rfl⟩ 0 rfl rfl rfl rfl (Nat.le_of_ble_eq_true rfl) ⟨Nat.le_of_ble_eq_true rfl, Nat.le_of_ble_eq_true rfl⟩ rfl rfl) rfl rfl rfl ⟨rfl, rfl⟩ ?_
  refine w_aload_n (pc := 4) hX dX8_exchange_4 rfl rfl ?_
  obtain ⟨r2, hr2, hm⟩ := bnd hm
  refine w_callpi (pc := 5) hX [0, 1, 2, 3, 4, 5, 6, 7, 8, 9, 10, 11, 12] (runV (rest := []) hX [0, 1, 2, 3, 4, 5, 6, 7, 8, 9, 10, 11, 12] (ctX8_isWhole G F a_t m_s r1 m_kept m_isKept m_past m_states m_text m_length m_far m_queue m_isOn m_steps m_wayCells m_turns m_visits m_wasSo m_bestAway m_bestMade m_bestFault m_isHere m_place m_reason m_wide m_high r2 hr2) dX8_exchange_5 0 gX8_exchange_X8_isWhole rfl hyX8_isWhole ⟨Nat.le_of_ble_eq_true rfl, Nat.le_of_ble_eq_true rfl⟩ 0 rfl rfl rfl rfl (Nat.le_of_ble_eq_true rfl) ⟨Nat.le_of_ble_eq_true rfl, Nat.le_of_ble_eq_true rfl⟩ rfl rfl) rfl ⟨rfl, rfl⟩ ?_
  refine w_if_ne (pc := 8) (tgt := 14) hX dX8_exchange_8 (by decide) hm (fun hm => ?_) (fun hm => ?_)
  ·
    refine w_aload_n (pc := 14) hX dX8_exchange_14 rfl rfl ?_
    obtain ⟨r3, hr3, hm⟩ := bnd hm
    refine w_calldv (pc := 15) (ws' := wX8 G a_t r3.1 r1 m_kept m_isKept m_past m_states m_text m_length r3.2.1 r3.2.2.1 r3.2.2.2.1 r3.2.2.2.2.1 r3.2.2.2.2.2.1 r3.2.2.2.2.2.2.1 m_visits m_wasSo r3.2.2.2.2.2.2.2.1 r3.2.2.2.2.2.2.2.2.1 r3.2.2.2.2.2.2.2.2.2.1 r3.2.2.2.2.2.2.2.2.2.2 m_place m_reason m_wide m_high) hX [0, 1, 2, 3, 4, 5, 6, 7, 8, 9, 10, 11, 12] (runV (rest := []) hX [0, 1, 2, 3, 4, 5, 6, 7, 8, 9, 10, 11, 12] (ctX8_looksForBest G F a_t m_s r1 m_kept m_isKept m_past m_states m_text m_length m_far m_queue m_isOn m_steps m_wayCells m_turns m_visits m_wasSo m_bestAway m_bestMade m_bestFault m_isHere m_place m_reason m_wide m_high r3 hr3) dX8_exchange_15 0 gX8_exchange_X8_looksForBest rfl hyX8_looksForBest ⟨Nat.le_of_ble_eq_true rfl, Nat.le_of_ble_eq_true rfl⟩ 0 rfl rfl rfl rfl (Nat.le_of_ble_eq_true rfl) ⟨Nat.le_of_ble_eq_true rfl, Nat.le_of_ble_eq_true rfl⟩ rfl rfl) rfl rfl rfl ⟨rfl, rfl⟩ ?_
    refine w_aload_n (pc := 18) hX dX8_exchange_18 rfl rfl ?_
    refine gf_X8_bestFault (pc := 19) hX dX8_exchange_19 hX8 (List.mem_of_getElem? (i := 1) rfl) 0 rfl rfl ?_
    refine w_aload_n (pc := 22) hX dX8_exchange_22 rfl rfl ?_
    obtain ⟨r4, hr4, hm⟩ := bnd hm
    refine w_calldi (pc := 23) (ws' := wX8 G a_t r3.1 r1 m_kept m_isKept m_past m_states m_text m_length r4.2.1 r4.2.2.1 r4.2.2.2.1 r4.2.2.2.2.1 r4.2.2.2.2.2.1 r4.2.2.2.2.2.2 m_visits m_wasSo r3.2.2.2.2.2.2.2.1 r3.2.2.2.2.2.2.2.2.1 r3.2.2.2.2.2.2.2.2.2.1 r3.2.2.2.2.2.2.2.2.2.2 m_place m_reason m_wide m_high) hX [0, 1, 2, 3, 4, 5, 6, 7, 8, 9, 10, 11, 12] (runV (rest := [.int r3.2.2.2.2.2.2.2.2.2.1]) hX [0, 1, 2, 3, 4, 5, 6, 7, 8, 9, 10, 11, 12] (ctX8_wayFault G F a_t r3.1 r1 m_kept m_isKept m_past m_states m_text m_length r3.2.1 r3.2.2.1 r3.2.2.2.1 r3.2.2.2.2.1 r3.2.2.2.2.2.1 r3.2.2.2.2.2.2.1 m_visits m_wasSo r3.2.2.2.2.2.2.2.1 r3.2.2.2.2.2.2.2.2.1 r3.2.2.2.2.2.2.2.2.2.1 r3.2.2.2.2.2.2.2.2.2.2 m_place m_reason m_wide m_high r4 hr4) dX8_exchange_23 0 gX8_exchange_X8_wayFault rfl hyX8_wayFault ⟨Nat.le_of_ble_eq_true rfl, Nat.le_of_ble_eq_true rfl⟩ 0 rfl rfl rfl rfl (Nat.le_of_ble_eq_true rfl) ⟨Nat.le_of_ble_eq_true rfl, Nat.le_of_ble_eq_true rfl⟩ rfl rfl) rfl rfl rfl ⟨rfl, rfl⟩ ?_
    refine w_icmp_lt (pc := 26) (tgt := 32) hX dX8_exchange_26 (by decide) hm (fun hm => ?_) (fun hm => ?_)
    ·
      refine w_aload_n (pc := 32) hX dX8_exchange_32 rfl rfl ?_
      obtain ⟨r5, hr5, hm⟩ := bnd hm
      refine w_calldv (pc := 33) (ws' := wX8 G a_t r5 r1 m_kept m_isKept m_past m_states m_text m_length r4.2.1 r4.2.2.1 r4.2.2.2.1 r4.2.2.2.2.1 r4.2.2.2.2.2.1 r4.2.2.2.2.2.2 m_visits m_wasSo r3.2.2.2.2.2.2.2.1 r3.2.2.2.2.2.2.2.2.1 r3.2.2.2.2.2.2.2.2.2.1 r3.2.2.2.2.2.2.2.2.2.2 m_place m_reason m_wide m_high) hX [0, 1, 2, 3, 4, 5, 6, 7, 8, 9, 10, 11, 12] (runV (rest := []) hX [0, 1, 2, 3, 4, 5, 6, 7, 8, 9, 10, 11, 12] (ctX8_exchanges G a_t r3.1 r1 m_kept m_isKept m_past m_states m_text m_length r4.2.1 r4.2.2.1 r4.2.2.2.1 r4.2.2.2.2.1 r4.2.2.2.2.2.1 r4.2.2.2.2.2.2 m_visits m_wasSo r3.2.2.2.2.2.2.2.1 r3.2.2.2.2.2.2.2.2.1 r3.2.2.2.2.2.2.2.2.2.1 r3.2.2.2.2.2.2.2.2.2.2 m_place m_reason m_wide m_high r5 hr5) dX8_exchange_33 0 gX8_exchange_X8_exchanges rfl hyX8_exchanges ⟨Nat.le_of_ble_eq_true rfl, Nat.le_of_ble_eq_true rfl⟩ 0 rfl rfl rfl rfl (Nat.le_of_ble_eq_true rfl) ⟨Nat.le_of_ble_eq_true rfl, Nat.le_of_ble_eq_true rfl⟩ rfl rfl) rfl rfl rfl ⟨rfl, rfl⟩ ?_
      refine w_aload_n (pc := 36) hX dX8_exchange_36 rfl rfl ?_
      refine w_aload_n (pc := 37) hX dX8_exchange_37 rfl rfl ?_
      obtain ⟨r6, hr6, hm⟩ := bnd hm
      refine w_calldi (pc := 38) (ws' := wX8 G a_t r5 r1 m_kept m_isKept m_past m_states m_text m_length r6.2.1 r6.2.2.1 r6.2.2.2.1 r6.2.2.2.2.1 r6.2.2.2.2.2.1 r6.2.2.2.2.2.2 m_visits m_wasSo r3.2.2.2.2.2.2.2.1 r3.2.2.2.2.2.2.2.2.1 r3.2.2.2.2.2.2.2.2.2.1 r3.2.2.2.2.2.2.2.2.2.2 m_place m_reason m_wide m_high) hX [0, 1, 2, 3, 4, 5, 6, 7, 8, 9, 10, 11, 12] (runV (rest := [.ref (a_t 0)]) hX [0, 1, 2, 3, 4, 5, 6, 7, 8, 9, 10, 11, 12] (ctX8_wayFault G F a_t r5 r1 m_kept m_isKept m_past m_states m_text m_length r4.2.1 r4.2.2.1 r4.2.2.2.1 r4.2.2.2.2.1 r4.2.2.2.2.2.1 r4.2.2.2.2.2.2 m_visits m_wasSo r3.2.2.2.2.2.2.2.1 r3.2.2.2.2.2.2.2.2.1 r3.2.2.2.2.2.2.2.2.2.1 r3.2.2.2.2.2.2.2.2.2.2 m_place m_reason m_wide m_high r6 hr6) dX8_exchange_38 0 gX8_exchange_X8_wayFault rfl hyX8_wayFault ⟨Nat.le_of_ble_eq_true rfl, Nat.le_of_ble_eq_true rfl⟩ 0 rfl rfl rfl rfl (Nat.le_of_ble_eq_true rfl) ⟨Nat.le_of_ble_eq_true rfl, Nat.le_of_ble_eq_true rfl⟩ rfl rfl) rfl rfl rfl ⟨rfl, rfl⟩ ?_
      obtain ⟨r7, hr7, hm⟩ := bnd hm
      refine w_calldi (pc := 41) (ws' := wX8 G a_t r7.2.1 r1 m_kept m_isKept r7.2.2.1 r7.2.2.2 m_text m_length r6.2.1 r6.2.2.1 r6.2.2.2.1 r6.2.2.2.2.1 r6.2.2.2.2.2.1 r6.2.2.2.2.2.2 m_visits m_wasSo r3.2.2.2.2.2.2.2.1 r3.2.2.2.2.2.2.2.2.1 r3.2.2.2.2.2.2.2.2.2.1 r3.2.2.2.2.2.2.2.2.2.2 m_place m_reason m_wide m_high) hX [0, 1, 2, 3, 4, 5, 6, 7, 8, 9, 10, 11, 12] (runV (rest := []) hX [0, 1, 2, 3, 4, 5, 6, 7, 8, 9, 10, 11, 12] (ctX8_acted G F a_t r5 r1 m_kept m_isKept m_past m_states m_text m_length r6.2.1 r6.2.2.1 r6.2.2.2.1 r6.2.2.2.2.1 r6.2.2.2.2.2.1 r6.2.2.2.2.2.2 m_visits m_wasSo r3.2.2.2.2.2.2.2.1 r3.2.2.2.2.2.2.2.2.1 r3.2.2.2.2.2.2.2.2.2.1 r3.2.2.2.2.2.2.2.2.2.2 m_place m_reason m_wide m_high r6.1 r7 hr7) dX8_exchange_41 1 gX8_exchange_X8_acted rfl hyX8_acted ⟨Nat.le_of_ble_eq_true rfl, Nat.le_of_ble_eq_true rfl⟩ 0 rfl rfl rfl rfl (Nat.le_of_ble_eq_true rfl) ⟨Nat.le_of_ble_eq_true rfl, Nat.le_of_ble_eq_true rfl⟩ rfl rfl) rfl rfl rfl ⟨rfl, rfl⟩ ?_
      obtain rfl := som hm
      exact w_iret (pc := 44) hX hR dX8_exchange_44 ⟨rfl, rfl⟩
    ·
      refine w_bipush (pc := 29) hX dX8_exchange_29 bp_m2 ?_
      obtain rfl := som hm
      exact w_iret (pc := 31) hX hR dX8_exchange_31 ⟨rfl, rfl⟩
  ·
    refine w_bipush (pc := 11) hX dX8_exchange_11 bp_m2 ?_
    obtain rfl := som hm
    exact w_iret (pc := 13) hX hR dX8_exchange_13 ⟨rfl, rfl⟩

theorem lX8_improve_X8 : ∀ w ∈ wsX80, w ∈ wsX8_improve := in_at [85, 86, 87, 88, 89, 90, 91, 92, 93, 94, 95, 96, 97, 98, 99, 100, 101, 102, 103, 104, 105, 106, 107, 108] (by decide +kernel)
set_option maxHeartbeats 4000000 in
set_option maxRecDepth 100000 in
theorem ctX8_improve (G : gT) (F : Nat) (a_t : Nat → Nat) (m_s : nF) (m_begun : nF) (m_kept : nF) (m_isKept : Int32) (m_past : nF) (m_states : Int32) (m_text : nF) (m_length : Int32) (m_far : nF) (m_queue : nF) (m_isOn : nF) (m_steps : nF) (m_wayCells : Int32) (m_turns : Int32) (m_visits : nF) (m_wasSo : nF) (m_bestAway : Int32) (m_bestMade : Int32) (m_bestFault : Int32) (m_isHere : nF) (m_place : Int32) (m_reason : Int32) (m_wide : Int32) (m_high : Int32) (o : (Int32 × nF × nF × nF × Int32 × nF × nF × nF × nF × Int32 × Int32 × Int32 × Int32 × Int32 × nF)) (hm : mX8_improve F m_s m_begun m_past m_states m_far m_queue m_isOn m_steps m_wayCells m_turns m_bestAway m_bestMade m_bestFault m_isHere = some o) : CT G yX8_improve wsX8_improve rmX8_improve [.ref (a_t 0)] (wX8 G a_t m_s m_begun m_kept m_isKept m_past m_states m_text m_length m_far m_queue m_isOn m_steps m_wayCells m_turns m_visits m_wasSo m_bestAway m_bestMade m_bestFault m_isHere m_place m_reason m_wide m_high) (fun v w => v = some (.int o.1) ∧ w = wX8 G a_t o.2.1 o.2.2.1 m_kept m_isKept o.2.2.2.1 o.2.2.2.2.1 m_text m_length o.2.2.2.2.2.1 o.2.2.2.2.2.2.1 o.2.2.2.2.2.2.2.1 o.2.2.2.2.2.2.2.2.1 o.2.2.2.2.2.2.2.2.2.1 o.2.2.2.2.2.2.2.2.2.2.1 m_visits m_wasSo o.2.2.2.2.2.2.2.2.2.2.2.1 o.2.2.2.2.2.2.2.2.2.2.2.2.1 o.2.2.2.2.2.2.2.2.2.2.2.2.2.1 o.2.2.2.2.2.2.2.2.2.2.2.2.2.2 m_place m_reason m_wide m_high) := by
  refine CT_of (cc := cX8_improve) (maxL := 2) (ret := (some .int)) 1 (by decide +kernel) rfl rfl (cat_ok rfl) (fun X hX hR hN => ?_)
  have hX : Ok G X cX8_improve RX8 wsX8_improve 2 rmX8_improve := hX
  have hX8 : ∀ w ∈ wsX80, w ∈ wsX8_improve := lX8_improve_X8
  unfold mX8_improve at hm
  refine w_aload_n (pc := 0) hX dX8_improve_0 rfl rfl ?_
  obtain ⟨r1, hr1, hm⟩ := bnd hm
  refine w_calldv (pc := 1) (ws' := wX8 G a_t m_s r1 m_kept m_isKept m_past m_states m_text m_length m_far m_queue m_isOn m_steps m_wayCells m_turns m_visits m_wasSo m_bestAway m_bestMade m_bestFault m_isHere m_place m_reason m_wide m_high) hX [0, 1, 2, 3, 4, 5, 6, 7, 8, 9, 10, 11, 12] (runV (rest := []) hX [0, 1, 2, 3, 4, 5, 6, 7, 8, 9, 10, 11, 12] (ctX8_begins G F a_t m_s m_begun m_kept m_isKept m_past m_states m_text m_length m_far m_queue m_isOn m_steps m_wayCells m_turns m_visits m_wasSo m_bestAway m_bestMade m_bestFault m_isHere m_place m_reason m_wide m_high r1 hr1) dX8_improve_1 0 gX8_improve_X8_begins rfl hyX8_begins ⟨Nat.le_of_ble_eq_true rfl, Nat.le_of_ble_eq_true rfl⟩ 0 rfl rfl rfl rfl (Nat.le_of_ble_eq_true rfl) ⟨Nat.le_of_ble_eq_true rfl, Nat.le_of_ble_eq_true rfl⟩ rfl rfl) rfl rfl rfl ⟨rfl, rfl⟩ ?_
  refine w_aload_n (pc := 4) hX dX8_improve_4 rfl rfl ?_
  obtain ⟨r2, hr2, hm⟩ := bnd hm
  refine w_callpi (pc := 5) hX [0, 1, 2, 3, 4, 5, 6, 7, 8, 9, 10, 11, 12] (runV (rest := []) hX [0, 1, 2, 3, 4, 5, 6, 7, 8, 9, 10, 11, 12] (ctX8_isWhole G F a_t m_s r1 m_kept m_isKept m_past m_states m_text m_length m_far m_queue m_isOn m_steps m_wayCells m_turns m_visits m_wasSo m_bestAway m_bestMade m_bestFault m_isHere m_place m_reason m_wide m_high r2 hr2) dX8_improve_5 0 gX8_improve_X8_isWhole rfl hyX8_isWhole ⟨Nat.le_of_ble_eq_true rfl, Nat.le_of_ble_eq_true rfl⟩ 0 rfl rfl rfl rfl (Nat.le_of_ble_eq_true rfl) ⟨Nat.le_of_ble_eq_true rfl, Nat.le_of_ble_eq_true rfl⟩ rfl rfl) rfl ⟨rfl, rfl⟩ ?_
  refine w_if_ne (pc := 8) (tgt := 14) hX dX8_improve_8 (by decide) hm (fun hm => ?_) (fun hm => ?_)
  ·
    refine w_iconst (pc := 14) hX dX8_improve_14 ic_0 ?_
    refine w_istore_n (pc := 15) hX dX8_improve_15 rfl (Nat.le_of_ble_eq_true rfl) ?_
    refine w_aload_n (pc := 16) hX dX8_improve_16 rfl rfl ?_
    obtain ⟨r3, hr3, hm⟩ := bnd hm
    refine w_calldv (pc := 17) (ws' := wX8 G a_t r3.1 r1 m_kept m_isKept m_past m_states m_text m_length r3.2.1 r3.2.2.1 r3.2.2.2.1 r3.2.2.2.2.1 r3.2.2.2.2.2.1 r3.2.2.2.2.2.2.1 m_visits m_wasSo r3.2.2.2.2.2.2.2.1 r3.2.2.2.2.2.2.2.2.1 r3.2.2.2.2.2.2.2.2.2.1 r3.2.2.2.2.2.2.2.2.2.2 m_place m_reason m_wide m_high) hX [0, 1, 2, 3, 4, 5, 6, 7, 8, 9, 10, 11, 12] (runV (rest := []) hX [0, 1, 2, 3, 4, 5, 6, 7, 8, 9, 10, 11, 12] (ctX8_looksForBest G F a_t m_s r1 m_kept m_isKept m_past m_states m_text m_length m_far m_queue m_isOn m_steps m_wayCells m_turns m_visits m_wasSo m_bestAway m_bestMade m_bestFault m_isHere m_place m_reason m_wide m_high r3 hr3) dX8_improve_17 0 gX8_improve_X8_looksForBest rfl hyX8_looksForBest ⟨Nat.le_of_ble_eq_true rfl, Nat.le_of_ble_eq_true rfl⟩ 0 rfl rfl rfl rfl (Nat.le_of_ble_eq_true rfl) ⟨Nat.le_of_ble_eq_true rfl, Nat.le_of_ble_eq_true rfl⟩ rfl rfl) rfl rfl rfl ⟨rfl, rfl⟩ ?_
    refine w_jn (T := fun x4 : (Int32 × nF × nF × nF × nF × nF × Int32 × Int32 × Int32 × Int32 × Int32 × nF) => WW G X 0 0 (wX8 G a_t x4.2.1 r1 m_kept m_isKept m_past m_states m_text m_length x4.2.2.1 x4.2.2.2.1 x4.2.2.2.2.1 x4.2.2.2.2.2.1 x4.2.2.2.2.2.2.1 x4.2.2.2.2.2.2.2.1 m_visits m_wasSo x4.2.2.2.2.2.2.2.2.1 x4.2.2.2.2.2.2.2.2.2.1 x4.2.2.2.2.2.2.2.2.2.2.1 x4.2.2.2.2.2.2.2.2.2.2.2 m_place m_reason m_wide m_high) [some (.ref (a_t 0)), some (.int x4.1)] 45 []) hm (fun x4 hm => ?_) (fun j5 hj5 hm => ?_)
    ·
      unfold mX8_improve_K45 at hm
      refine w_aload_n (pc := 45) hX dX8_improve_45 rfl rfl ?_
      refine w_iload_n (pc := 46) hX dX8_improve_46 rfl rfl ?_
      obtain ⟨r6, hr6, hm⟩ := bnd hm
      refine w_calldi (pc := 47) (ws' := wX8 G a_t r6.2.1 r1 m_kept m_isKept r6.2.2.1 r6.2.2.2 m_text m_length x4.2.2.1 x4.2.2.2.1 x4.2.2.2.2.1 x4.2.2.2.2.2.1 x4.2.2.2.2.2.2.1 x4.2.2.2.2.2.2.2.1 m_visits m_wasSo x4.2.2.2.2.2.2.2.2.1 x4.2.2.2.2.2.2.2.2.2.1 x4.2.2.2.2.2.2.2.2.2.2.1 x4.2.2.2.2.2.2.2.2.2.2.2 m_place m_reason m_wide m_high) hX [0, 1, 2, 3, 4, 5, 6, 7, 8, 9, 10, 11, 12] (runV (rest := []) hX [0, 1, 2, 3, 4, 5, 6, 7, 8, 9, 10, 11, 12] (ctX8_acted G F a_t x4.2.1 r1 m_kept m_isKept m_past m_states m_text m_length x4.2.2.1 x4.2.2.2.1 x4.2.2.2.2.1 x4.2.2.2.2.2.1 x4.2.2.2.2.2.2.1 x4.2.2.2.2.2.2.2.1 m_visits m_wasSo x4.2.2.2.2.2.2.2.2.1 x4.2.2.2.2.2.2.2.2.2.1 x4.2.2.2.2.2.2.2.2.2.2.1 x4.2.2.2.2.2.2.2.2.2.2.2 m_place m_reason m_wide m_high x4.1 r6 hr6) dX8_improve_47 1 gX8_improve_X8_acted rfl hyX8_acted ⟨Nat.le_of_ble_eq_true rfl, Nat.le_of_ble_eq_true rfl⟩ 0 rfl rfl rfl rfl (Nat.le_of_ble_eq_true rfl) ⟨Nat.le_of_ble_eq_true rfl, Nat.le_of_ble_eq_true rfl⟩ rfl rfl) rfl rfl rfl ⟨rfl, rfl⟩ ?_
      obtain rfl := som hm
      exact w_iret (pc := 50) hX hR dX8_improve_50 ⟨rfl, rfl⟩
    ·
      refine w_lvs [true, true] ?_
      refine lpr_ind (T := fun x7 : (Int32 × nF × nF × nF × nF × nF × Int32 × Int32 × Int32 × Int32 × Int32 × nF) => WW G X 0 0 (wX8 G a_t x7.2.1 r1 m_kept m_isKept m_past m_states m_text m_length x7.2.2.1 x7.2.2.2.1 x7.2.2.2.2.1 x7.2.2.2.2.2.1 x7.2.2.2.2.2.2.1 x7.2.2.2.2.2.2.2.1 m_visits m_wasSo x7.2.2.2.2.2.2.2.2.1 x7.2.2.2.2.2.2.2.2.2.1 x7.2.2.2.2.2.2.2.2.2.2.1 x7.2.2.2.2.2.2.2.2.2.2.2 m_place m_reason m_wide m_high) [some (.ref (a_t 0)), some (.int x7.1)] 20 []) (fun self8 hself8 x7 hm => ?_) F ((0 : Int32), r3.1, r3.2.1, r3.2.2.1, r3.2.2.2.1, r3.2.2.2.2.1, r3.2.2.2.2.2.1, r3.2.2.2.2.2.2.1, r3.2.2.2.2.2.2.2.1, r3.2.2.2.2.2.2.2.2.1, r3.2.2.2.2.2.2.2.2.2.1, r3.2.2.2.2.2.2.2.2.2.2) hm
      unfold mX8_improve_L20 at hm
      refine w_aload_n (pc := 20) hX dX8_improve_20 rfl rfl ?_
      refine gf_X8_bestFault (pc := 21) hX dX8_improve_21 hX8 (List.mem_of_getElem? (i := 1) rfl) 0 rfl rfl ?_
      refine w_aload_n (pc := 24) hX dX8_improve_24 rfl rfl ?_
      obtain ⟨r9, hr9, hm⟩ := bnd hm
      refine w_calldi (pc := 25) (ws' := wX8 G a_t x7.2.1 r1 m_kept m_isKept m_past m_states m_text m_length r9.2.1 r9.2.2.1 r9.2.2.2.1 r9.2.2.2.2.1 r9.2.2.2.2.2.1 r9.2.2.2.2.2.2 m_visits m_wasSo x7.2.2.2.2.2.2.2.2.1 x7.2.2.2.2.2.2.2.2.2.1 x7.2.2.2.2.2.2.2.2.2.2.1 x7.2.2.2.2.2.2.2.2.2.2.2 m_place m_reason m_wide m_high) hX [0, 1, 2, 3, 4, 5, 6, 7, 8, 9, 10, 11, 12] (runV (rest := [.int x7.2.2.2.2.2.2.2.2.2.2.1]) hX [0, 1, 2, 3, 4, 5, 6, 7, 8, 9, 10, 11, 12] (ctX8_wayFault G F a_t x7.2.1 r1 m_kept m_isKept m_past m_states m_text m_length x7.2.2.1 x7.2.2.2.1 x7.2.2.2.2.1 x7.2.2.2.2.2.1 x7.2.2.2.2.2.2.1 x7.2.2.2.2.2.2.2.1 m_visits m_wasSo x7.2.2.2.2.2.2.2.2.1 x7.2.2.2.2.2.2.2.2.2.1 x7.2.2.2.2.2.2.2.2.2.2.1 x7.2.2.2.2.2.2.2.2.2.2.2 m_place m_reason m_wide m_high r9 hr9) dX8_improve_25 0 gX8_improve_X8_wayFault rfl hyX8_wayFault ⟨Nat.le_of_ble_eq_true rfl, Nat.le_of_ble_eq_true rfl⟩ 0 rfl rfl rfl rfl (Nat.le_of_ble_eq_true rfl) ⟨Nat.le_of_ble_eq_true rfl, Nat.le_of_ble_eq_true rfl⟩ rfl rfl) rfl rfl rfl ⟨rfl, rfl⟩ ?_
      refine w_icmp_ge (pc := 28) (tgt := 45) hX dX8_improve_28 (by decide) hm (fun hm => ?_) (fun hm => ?_)
      ·
        exact w_lvs [true, true] (hj5 (x7.1, x7.2.1, r9.2.1, r9.2.2.1, r9.2.2.2.1, r9.2.2.2.2.1, r9.2.2.2.2.2.1, r9.2.2.2.2.2.2, x7.2.2.2.2.2.2.2.2.1, x7.2.2.2.2.2.2.2.2.2.1, x7.2.2.2.2.2.2.2.2.2.2.1, x7.2.2.2.2.2.2.2.2.2.2.2) hm)
      ·
        refine w_aload_n (pc := 31) hX dX8_improve_31 rfl rfl ?_
        obtain ⟨r10, hr10, hm⟩ := bnd hm
        refine w_calldv (pc := 32) (ws' := wX8 G a_t r10 r1 m_kept m_isKept m_past m_states m_text m_length r9.2.1 r9.2.2.1 r9.2.2.2.1 r9.2.2.2.2.1 r9.2.2.2.2.2.1 r9.2.2.2.2.2.2 m_visits m_wasSo x7.2.2.2.2.2.2.2.2.1 x7.2.2.2.2.2.2.2.2.2.1 x7.2.2.2.2.2.2.2.2.2.2.1 x7.2.2.2.2.2.2.2.2.2.2.2 m_place m_reason m_wide m_high) hX [0, 1, 2, 3, 4, 5, 6, 7, 8, 9, 10, 11, 12] (runV (rest := []) hX [0, 1, 2, 3, 4, 5, 6, 7, 8, 9, 10, 11, 12] (ctX8_exchanges G a_t x7.2.1 r1 m_kept m_isKept m_past m_states m_text m_length r9.2.1 r9.2.2.1 r9.2.2.2.1 r9.2.2.2.2.1 r9.2.2.2.2.2.1 r9.2.2.2.2.2.2 m_visits m_wasSo x7.2.2.2.2.2.2.2.2.1 x7.2.2.2.2.2.2.2.2.2.1 x7.2.2.2.2.2.2.2.2.2.2.1 x7.2.2.2.2.2.2.2.2.2.2.2 m_place m_reason m_wide m_high r10 hr10) dX8_improve_32 0 gX8_improve_X8_exchanges rfl hyX8_exchanges ⟨Nat.le_of_ble_eq_true rfl, Nat.le_of_ble_eq_true rfl⟩ 0 rfl rfl rfl rfl (Nat.le_of_ble_eq_true rfl) ⟨Nat.le_of_ble_eq_true rfl, Nat.le_of_ble_eq_true rfl⟩ rfl rfl) rfl rfl rfl ⟨rfl, rfl⟩ ?_
        refine w_iinc (pc := 35) hX dX8_improve_35 rfl (Nat.le_of_ble_eq_true rfl) ic_1 ?_
        refine w_aload_n (pc := 38) hX dX8_improve_38 rfl rfl ?_
        obtain ⟨r11, hr11, hm⟩ := bnd hm
        refine w_calldv (pc := 39) (ws' := wX8 G a_t r11.1 r1 m_kept m_isKept m_past m_states m_text m_length r11.2.1 r11.2.2.1 r11.2.2.2.1 r11.2.2.2.2.1 r11.2.2.2.2.2.1 r11.2.2.2.2.2.2.1 m_visits m_wasSo r11.2.2.2.2.2.2.2.1 r11.2.2.2.2.2.2.2.2.1 r11.2.2.2.2.2.2.2.2.2.1 r11.2.2.2.2.2.2.2.2.2.2 m_place m_reason m_wide m_high) hX [0, 1, 2, 3, 4, 5, 6, 7, 8, 9, 10, 11, 12] (runV (rest := []) hX [0, 1, 2, 3, 4, 5, 6, 7, 8, 9, 10, 11, 12] (ctX8_looksForBest G F a_t r10 r1 m_kept m_isKept m_past m_states m_text m_length r9.2.1 r9.2.2.1 r9.2.2.2.1 r9.2.2.2.2.1 r9.2.2.2.2.2.1 r9.2.2.2.2.2.2 m_visits m_wasSo x7.2.2.2.2.2.2.2.2.1 x7.2.2.2.2.2.2.2.2.2.1 x7.2.2.2.2.2.2.2.2.2.2.1 x7.2.2.2.2.2.2.2.2.2.2.2 m_place m_reason m_wide m_high r11 hr11) dX8_improve_39 0 gX8_improve_X8_looksForBest rfl hyX8_looksForBest ⟨Nat.le_of_ble_eq_true rfl, Nat.le_of_ble_eq_true rfl⟩ 0 rfl rfl rfl rfl (Nat.le_of_ble_eq_true rfl) ⟨Nat.le_of_ble_eq_true rfl, Nat.le_of_ble_eq_true rfl⟩ rfl rfl) rfl rfl rfl ⟨rfl, rfl⟩ ?_
        refine w_goto (pc := 42) (tgt := 20) hX dX8_improve_42 (by decide) ?_
        exact w_lvs [true, true] (hself8 (x7.1 + (1 : Int32), r11.1, r11.2.1, r11.2.2.1, r11.2.2.2.1, r11.2.2.2.2.1, r11.2.2.2.2.2.1, r11.2.2.2.2.2.2.1, r11.2.2.2.2.2.2.2.1, r11.2.2.2.2.2.2.2.2.1, r11.2.2.2.2.2.2.2.2.2.1, r11.2.2.2.2.2.2.2.2.2.2) hm)
  ·
    refine w_bipush (pc := 11) hX dX8_improve_11 bp_m2 ?_
    obtain rfl := som hm
    exact w_iret (pc := 13) hX hR dX8_improve_13 ⟨rfl, rfl⟩

theorem lX8_best_X8 : ∀ w ∈ wsX80, w ∈ wsX8_best := in_at [73, 74, 75, 76, 77, 78, 79, 80, 81, 82, 83, 84, 85, 86, 87, 88, 89, 90, 91, 92, 93, 94, 95, 96] (by decide +kernel)
set_option maxHeartbeats 4000000 in
set_option maxRecDepth 100000 in
theorem ctX8_best (G : gT) (F : Nat) (a_t : Nat → Nat) (m_s : nF) (m_begun : nF) (m_kept : nF) (m_isKept : Int32) (m_past : nF) (m_states : Int32) (m_text : nF) (m_length : Int32) (m_far : nF) (m_queue : nF) (m_isOn : nF) (m_steps : nF) (m_wayCells : Int32) (m_turns : Int32) (m_visits : nF) (m_wasSo : nF) (m_bestAway : Int32) (m_bestMade : Int32) (m_bestFault : Int32) (m_isHere : nF) (m_place : Int32) (m_reason : Int32) (m_wide : Int32) (m_high : Int32) (g1 : Int32) (o : (Int32 × nF × nF × nF × nF × nF × Int32 × Int32 × Int32 × Int32 × Int32 × nF)) (hm : mX8_best F m_s m_far m_queue m_isOn m_steps m_wayCells m_turns m_bestAway m_bestMade m_bestFault m_isHere g1 = some o) : CT G yX8_best wsX8_best rmX8_best [.ref (a_t 0), .int g1] (wX8 G a_t m_s m_begun m_kept m_isKept m_past m_states m_text m_length m_far m_queue m_isOn m_steps m_wayCells m_turns m_visits m_wasSo m_bestAway m_bestMade m_bestFault m_isHere m_place m_reason m_wide m_high) (fun v w => v = some (.int o.1) ∧ w = wX8 G a_t o.2.1 m_begun m_kept m_isKept m_past m_states m_text m_length o.2.2.1 o.2.2.2.1 o.2.2.2.2.1 o.2.2.2.2.2.1 o.2.2.2.2.2.2.1 o.2.2.2.2.2.2.2.1 m_visits m_wasSo o.2.2.2.2.2.2.2.2.1 o.2.2.2.2.2.2.2.2.2.1 o.2.2.2.2.2.2.2.2.2.2.1 o.2.2.2.2.2.2.2.2.2.2.2 m_place m_reason m_wide m_high) := by
  refine CT_of (cc := cX8_best) (maxL := 2) (ret := (some .int)) 0 (by decide +kernel) rfl rfl (cat_ok rfl) (fun X hX hR hN => ?_)
  have hX : Ok G X cX8_best RX8 wsX8_best 2 rmX8_best := hX
  have hX8 : ∀ w ∈ wsX80, w ∈ wsX8_best := lX8_best_X8
  unfold mX8_best at hm
  refine w_iload_n (pc := 0) hX dX8_best_0 rfl rfl ?_
  refine w_iconst (pc := 1) hX dX8_best_1 ic_0 ?_
  refine w_iconst (pc := 2) hX dX8_best_2 ic_2 ?_
  obtain ⟨r1, hr1, hm⟩ := bnd hm
  refine w_callpi (pc := 3) hX [] (runS (rest := []) hX [] (ctX8_in G g1 (0 : Int32) (2 : Int32) r1 hr1) dX8_best_3 3 gX8_best_X8_in rfl hyX8_in.2 ⟨Nat.le_of_ble_eq_true rfl, Nat.le_of_ble_eq_true rfl⟩ rfl rfl (Nat.le_of_ble_eq_true rfl) ⟨Nat.le_of_ble_eq_true rfl, Nat.le_of_ble_eq_true rfl⟩ rfl rfl) rfl ⟨rfl, rfl⟩ ?_
  refine w_if_ne (pc := 6) (tgt := 11) hX dX8_best_6 (by decide) hm (fun hm => ?_) (fun hm => ?_)
  ·
    refine w_aload_n (pc := 11) hX dX8_best_11 rfl rfl ?_
    obtain ⟨r2, hr2, hm⟩ := bnd hm
    refine w_callpi (pc := 12) hX [0, 1, 2, 3, 4, 5, 6, 7, 8, 9, 10, 11, 12] (runV (rest := []) hX [0, 1, 2, 3, 4, 5, 6, 7, 8, 9, 10, 11, 12] (ctX8_isWhole G F a_t m_s m_begun m_kept m_isKept m_past m_states m_text m_length m_far m_queue m_isOn m_steps m_wayCells m_turns m_visits m_wasSo m_bestAway m_bestMade m_bestFault m_isHere m_place m_reason m_wide m_high r2 hr2) dX8_best_12 0 gX8_best_X8_isWhole rfl hyX8_isWhole ⟨Nat.le_of_ble_eq_true rfl, Nat.le_of_ble_eq_true rfl⟩ 0 rfl rfl rfl rfl (Nat.le_of_ble_eq_true rfl) ⟨Nat.le_of_ble_eq_true rfl, Nat.le_of_ble_eq_true rfl⟩ rfl rfl) rfl ⟨rfl, rfl⟩ ?_
    refine w_if_ne (pc := 15) (tgt := 21) hX dX8_best_15 (by decide) hm (fun hm => ?_) (fun hm => ?_)
    ·
      refine w_aload_n (pc := 21) hX dX8_best_21 rfl rfl ?_
      obtain ⟨r3, hr3, hm⟩ := bnd hm
      refine w_calldv (pc := 22) (ws' := wX8 G a_t r3.1 m_begun m_kept m_isKept m_past m_states m_text m_length r3.2.1 r3.2.2.1 r3.2.2.2.1 r3.2.2.2.2.1 r3.2.2.2.2.2.1 r3.2.2.2.2.2.2.1 m_visits m_wasSo r3.2.2.2.2.2.2.2.1 r3.2.2.2.2.2.2.2.2.1 r3.2.2.2.2.2.2.2.2.2.1 r3.2.2.2.2.2.2.2.2.2.2 m_place m_reason m_wide m_high) hX [0, 1, 2, 3, 4, 5, 6, 7, 8, 9, 10, 11, 12] (runV (rest := []) hX [0, 1, 2, 3, 4, 5, 6, 7, 8, 9, 10, 11, 12] (ctX8_looksForBest G F a_t m_s m_begun m_kept m_isKept m_past m_states m_text m_length m_far m_queue m_isOn m_steps m_wayCells m_turns m_visits m_wasSo m_bestAway m_bestMade m_bestFault m_isHere m_place m_reason m_wide m_high r3 hr3) dX8_best_22 0 gX8_best_X8_looksForBest rfl hyX8_looksForBest ⟨Nat.le_of_ble_eq_true rfl, Nat.le_of_ble_eq_true rfl⟩ 0 rfl rfl rfl rfl (Nat.le_of_ble_eq_true rfl) ⟨Nat.le_of_ble_eq_true rfl, Nat.le_of_ble_eq_true rfl⟩ rfl rfl) rfl rfl rfl ⟨rfl, rfl⟩ ?_
      refine w_iload_n (pc := 25) hX dX8_best_25 rfl rfl ?_
      refine w_jn (T := fun x4 : Int32 => WW G X 0 0 (wX8 G a_t r3.1 m_begun m_kept m_isKept m_past m_states m_text m_length r3.2.1 r3.2.2.1 r3.2.2.2.1 r3.2.2.2.2.1 r3.2.2.2.2.2.1 r3.2.2.2.2.2.2.1 m_visits m_wasSo r3.2.2.2.2.2.2.2.1 r3.2.2.2.2.2.2.2.2.1 r3.2.2.2.2.2.2.2.2.2.1 r3.2.2.2.2.2.2.2.2.2.2 m_place m_reason m_wide m_high) [none, none] 52 [.int x4]) hm (fun x4 hm => ?_) (fun j5 hj5 hm => ?_)
      ·
        obtain rfl := som hm
        exact w_iret (pc := 52) hX hR dX8_best_52 ⟨rfl, rfl⟩
      ·
        refine w_if_ne (pc := 26) (tgt := 36) hX dX8_best_26 (by decide) hm (fun hm => ?_) (fun hm => ?_)
        ·
          refine w_iload_n (pc := 36) hX dX8_best_36 rfl rfl ?_
          refine w_iconst (pc := 37) hX dX8_best_37 ic_1 ?_
          refine w_icmp_ne (pc := 38) (tgt := 48) hX dX8_best_38 (by decide) hm (fun hm => ?_) (fun hm => ?_)
          ·
            refine w_aload_n (pc := 48) hX dX8_best_48 rfl rfl ?_
            refine gf_X8_bestFault (pc := 49) hX dX8_best_49 hX8 (List.mem_of_getElem? (i := 3) rfl) 0 rfl rfl ?_
            exact w_lvs [false, false] (hj5 r3.2.2.2.2.2.2.2.2.2.1 hm)
          ·
            refine w_aload_n (pc := 41) hX dX8_best_41 rfl rfl ?_
            refine gf_X8_bestMade (pc := 42) hX dX8_best_42 hX8 (List.mem_of_getElem? (i := 2) rfl) 0 rfl rfl ?_
            refine w_goto (pc := 45) (tgt := 52) hX dX8_best_45 (by decide) ?_
            exact w_lvs [false, false] (hj5 r3.2.2.2.2.2.2.2.2.1 hm)
        ·
          refine w_aload_n (pc := 29) hX dX8_best_29 rfl rfl ?_
          refine gf_X8_bestAway (pc := 30) hX dX8_best_30 hX8 (List.mem_of_getElem? (i := 1) rfl) 0 rfl rfl ?_
          refine w_goto (pc := 33) (tgt := 52) hX dX8_best_33 (by decide) ?_
          exact w_lvs [false, false] (hj5 r3.2.2.2.2.2.2.2.1 hm)
    ·
      refine w_bipush (pc := 18) hX dX8_best_18 bp_m2 ?_
      obtain rfl := som hm
      exact w_iret (pc := 20) hX hR dX8_best_20 ⟨rfl, rfl⟩
  ·
    refine w_iconst (pc := 9) hX dX8_best_9 ic_m1 ?_
    obtain rfl := som hm
    exact w_iret (pc := 10) hX hR dX8_best_10 ⟨rfl, rfl⟩
