/-! WALKS, printed by wip/whole/gen.py -/
set_option maxHeartbeats 4000000 in
set_option maxRecDepth 100000 in
theorem ctJ7_fill_53178 (G : gT) (F : Nat) (b_p0 : Nat) (n_p0 : Nat) (f_p0 : nF) (g1 : Int32) (o : nF) (hm : mJ7_fill_53178 F n_p0 f_p0 g1 = some o) : CT G yJ7_fill_53178 wsJ7_fill_53178 rmJ7_fill_53178 [.ref (b_p0), .int g1] ([(b_p0, .inl (G.2.1, n_p0, .inl f_p0))]) (fun v w => v = none ∧ w = [(b_p0, .inl (G.2.1, n_p0, .inl o))]) := by
  refine CT_of (cc := cJ7_fill_53178) (maxL := 4) (ret := none) 2 (by decide +kernel) rfl rfl (cat_ok rfl) (fun X hX hR hN => ?_)
  have hX : Ok G X cJ7_fill_53178 RJ7 wsJ7_fill_53178 4 rmJ7_fill_53178 := hX
  unfold mJ7_fill_53178 at hm
  refine w_iconst (pc := 0) hX dJ7_fill_53178_0 ic_0 ?_
  refine w_istore_n (pc := 1) hX dJ7_fill_53178_1 rfl (Nat.le_of_ble_eq_true rfl) ?_
  refine w_aload_n (pc := 2) hX dJ7_fill_53178_2 rfl rfl ?_
  refine w_alen (pc := 3) hX dJ7_fill_53178_3 0 rfl ?_
  refine w_istore_n (pc := 4) hX dJ7_fill_53178_4 rfl (Nat.le_of_ble_eq_true rfl) ?_
  refine w_lvs [true, true, true, true] ?_
  refine lpr_ind (T := fun x1 : (Int32 × nF) => WW G X 0 0 ([(b_p0, .inl (G.2.1, n_p0, .inl x1.2))]) [some (.ref (b_p0)), some (.int g1), some (.int x1.1), some (.int (Int32.ofNat n_p0))] 5 []) (fun self2 hself2 x1 hm => ?_) F ((0 : Int32), f_p0) hm
  unfold mJ7_fill_53178_L5 at hm
  refine w_iload_n (pc := 5) hX dJ7_fill_53178_5 rfl rfl ?_
  refine w_iload_n (pc := 6) hX dJ7_fill_53178_6 rfl rfl ?_
  refine w_icmp_ge (pc := 7) (tgt := 20) hX dJ7_fill_53178_7 (by decide) hm (fun hm => ?_) (fun hm => ?_)
  ·
    obtain rfl := som hm
    exact w_vret (pc := 20) hX hR dJ7_fill_53178_20 ⟨rfl, rfl⟩
  ·
    refine w_aload_n (pc := 10) hX dJ7_fill_53178_10 rfl rfl ?_
    refine w_iload_n (pc := 11) hX dJ7_fill_53178_11 rfl rfl ?_
    refine w_iload_n (pc := 12) hX dJ7_fill_53178_12 rfl rfl ?_
    refine w_iast (pc := 13) hX dJ7_fill_53178_13 0 rfl hm (fun hm => ?_)
    refine w_iinc (pc := 14) hX dJ7_fill_53178_14 rfl (Nat.le_of_ble_eq_true rfl) ic_1 ?_
    refine w_goto (pc := 17) (tgt := 5) hX dJ7_fill_53178_17 (by decide) ?_
    exact w_lvs [true, true, true, true] (hself2 (x1.1 + (1 : Int32), (upd x1.2 x1.1.toNatClampNeg g1)) hm)

set_option maxHeartbeats 4000000 in
set_option maxRecDepth 100000 in
theorem ctX7_put (G : gT) (b_p0 : Nat) (n_p0 : Nat) (f_p0 : nF) (g1 : Int32) (g2 : Int32) (o : nF) (hm : mX7_put n_p0 f_p0 g1 g2 = some o) : CT G yX7_put wsX7_put rmX7_put [.ref (b_p0), .int g1, .int g2] ([(b_p0, .inl (G.2.1, n_p0, .inl f_p0))]) (fun v w => v = none ∧ w = [(b_p0, .inl (G.2.1, n_p0, .inl o))]) := by
  refine CT_of (cc := cX7_put) (maxL := 3) (ret := none) 0 (by decide +kernel) rfl rfl (cat_ok rfl) (fun X hX hR hN => ?_)
  have hX : Ok G X cX7_put RX7 wsX7_put 3 rmX7_put := hX
  unfold mX7_put at hm
  refine w_iload_n (pc := 0) hX dX7_put_0 rfl rfl ?_
  refine w_jn (T := fun x1 : nF => WW G X 0 0 ([(b_p0, .inl (G.2.1, n_p0, .inl x1))]) [none, none, none] 14 []) hm (fun x1 hm => ?_) (fun j2 hj2 hm => ?_)
  ·
    obtain rfl := som hm
    exact w_vret (pc := 14) hX hR dX7_put_14 ⟨rfl, rfl⟩
  ·
    refine w_if_lt (pc := 1) (tgt := 14) hX dX7_put_1 (by decide) hm (fun hm => ?_) (fun hm => ?_)
    ·
      exact w_lvs [false, false, false] (hj2 f_p0 hm)
    ·
      refine w_iload_n (pc := 4) hX dX7_put_4 rfl rfl ?_
      refine w_aload_n (pc := 5) hX dX7_put_5 rfl rfl ?_
      refine w_alen (pc := 6) hX dX7_put_6 0 rfl ?_
      refine w_icmp_ge (pc := 7) (tgt := 14) hX dX7_put_7 (by decide) hm (fun hm => ?_) (fun hm => ?_)
      ·
        exact w_lvs [false, false, false] (hj2 f_p0 hm)
      ·
        refine w_aload_n (pc := 10) hX dX7_put_10 rfl rfl ?_
        refine w_iload_n (pc := 11) hX dX7_put_11 rfl rfl ?_
        refine w_iload_n (pc := 12) hX dX7_put_12 rfl rfl ?_
        refine w_iast (pc := 13) hX dX7_put_13 0 rfl hm (fun hm => ?_)
        exact w_lvs [false, false, false] (hj2 (upd f_p0 g1.toNatClampNeg g2) hm)

theorem lX3_cells_X3 : ∀ w ∈ wsX30, w ∈ wsX3_cells := in_at [3, 4, 5, 6, 7, 8] (by decide +kernel)
set_option maxHeartbeats 4000000 in
set_option maxRecDepth 100000 in
theorem ctX3_cells (G : gT) (a_t : Nat → Nat) (v_t : MZ) (o : Int32) (hm : mX3_cells v_t = some o) : CT G yX3_cells wsX3_cells rmX3_cells [.ref (a_t 0)] (wX3 G a_t v_t) (fun v w => v = some (.int o) ∧ w = wX3 G a_t v_t) := by
  refine CT_of (cc := cX3_cells) (maxL := 1) (ret := (some .int)) 0 (by decide +kernel) rfl rfl (cat_ok rfl) (fun X hX hR hN => ?_)
  have hX : Ok G X cX3_cells RX3 wsX3_cells 1 rmX3_cells := hX
  have hX3 : ∀ w ∈ wsX30, w ∈ wsX3_cells := lX3_cells_X3
  unfold mX3_cells at hm
  refine w_aload_n (pc := 0) hX dX3_cells_0 rfl rfl ?_
  refine gf_X3_columns (pc := 1) hX dX3_cells_1 hX3 (List.mem_of_getElem? (i := 1) rfl) 0 rfl rfl ?_
  refine w_aload_n (pc := 4) hX dX3_cells_4 rfl rfl ?_
  refine gf_X3_rows (pc := 5) hX dX3_cells_5 hX3 (List.mem_of_getElem? (i := 2) rfl) 0 rfl rfl ?_
  refine w_imul (pc := 8) hX dX3_cells_8 ?_
  obtain rfl := som hm
  exact w_iret (pc := 9) hX hR dX3_cells_9 ⟨rfl, rfl⟩

theorem lX3_clear_X3 : ∀ w ∈ wsX30, w ∈ wsX3_clear := in_at [19, 20, 21, 22, 23, 24] (by decide +kernel)
set_option maxHeartbeats 4000000 in
set_option maxRecDepth 100000 in
theorem ctX3_clear (G : gT) (F : Nat) (a_t : Nat → Nat) (v_t : MZ) (g1 : Int32) (g2 : Int32) (o : MZ) (hm : mX3_clear F v_t g1 g2 = some o) : CT G yX3_clear wsX3_clear rmX3_clear [.ref (a_t 0), .int g1, .int g2] (wX3 G a_t v_t) (fun v w => v = none ∧ w = wX3 G a_t o) := by
  refine CT_of (cc := cX3_clear) (maxL := 3) (ret := none) 0 (by decide +kernel) rfl rfl (cat_ok rfl) (fun X hX hR hN => ?_)
  have hX : Ok G X cX3_clear RX3 wsX3_clear 3 rmX3_clear := hX
  have hX3 : ∀ w ∈ wsX30, w ∈ wsX3_clear := lX3_clear_X3
  unfold mX3_clear at hm
  refine w_aload_n (pc := 0) hX dX3_clear_0 rfl rfl ?_
  refine w_iload_n (pc := 1) hX dX3_clear_1 rfl rfl ?_
  refine pf_X3_columns (pc := 2) hX dX3_clear_2 hX3 (List.mem_of_getElem? (i := 1) rfl) 0 rfl rfl ?_
  refine w_aload_n (pc := 5) hX dX3_clear_5 rfl rfl ?_
  refine w_iload_n (pc := 6) hX dX3_clear_6 rfl rfl ?_
  refine pf_X3_rows (pc := 7) hX dX3_clear_7 hX3 (List.mem_of_getElem? (i := 2) rfl) 0 rfl rfl ?_
  refine w_aload_n (pc := 10) hX dX3_clear_10 rfl rfl ?_
  refine gf_X3_tones (pc := 11) hX dX3_clear_11 hX3 (List.mem_of_getElem? (i := 3) rfl) 0 rfl rfl ?_
  refine w_iconst (pc := 14) hX dX3_clear_14 ic_0 ?_
  obtain ⟨r1, hr1, hm⟩ := bnd hm
  refine w_calldv (pc := 15) (ws' := wX3 G a_t (g1, g2, r1, v_t.2.2.2.1, v_t.2.2.2.2.1, v_t.2.2.2.2.2)) (os := [none, some 0, none, none, none]) 5 hX [1] (runS (rest := []) hX [1] (ctJ7_fill_53178 G F (a_t 1) 36 v_t.2.2.1 (0 : Int32) r1 hr1) dX3_clear_15 2 gX3_clear_J7_fill_53178 rfl hyJ7_fill_53178.2 ⟨Nat.le_of_ble_eq_true rfl, Nat.le_of_ble_eq_true rfl⟩ rfl rfl (Nat.le_of_ble_eq_true rfl) ⟨Nat.le_of_ble_eq_true rfl, Nat.le_of_ble_eq_true rfl⟩ rfl (by decide +kernel)) rfl rfl rfl (by decide +kernel) rfl ⟨rfl, rfl⟩ ?_
  refine w_aload_n (pc := 18) hX dX3_clear_18 rfl rfl ?_
  refine gf_X3_passages (pc := 19) hX dX3_clear_19 hX3 (List.mem_of_getElem? (i := 4) rfl) 0 rfl rfl ?_
  refine w_iconst (pc := 22) hX dX3_clear_22 ic_0 ?_
  obtain ⟨r2, hr2, hm⟩ := bnd hm
  refine w_calldv (pc := 23) (ws' := wX3 G a_t (g1, g2, r1, r2, v_t.2.2.2.2.1, v_t.2.2.2.2.2)) (os := [none, none, some 0, none, none]) 5 hX [2] (runS (rest := []) hX [2] (ctJ7_fill_53178 G F (a_t 2) 36 v_t.2.2.2.1 (0 : Int32) r2 hr2) dX3_clear_23 2 gX3_clear_J7_fill_53178 rfl hyJ7_fill_53178.2 ⟨Nat.le_of_ble_eq_true rfl, Nat.le_of_ble_eq_true rfl⟩ rfl rfl (Nat.le_of_ble_eq_true rfl) ⟨Nat.le_of_ble_eq_true rfl, Nat.le_of_ble_eq_true rfl⟩ rfl (by decide +kernel)) rfl rfl rfl (by decide +kernel) rfl ⟨rfl, rfl⟩ ?_
  refine w_aload_n (pc := 26) hX dX3_clear_26 rfl rfl ?_
  refine gf_X3_doorCells (pc := 27) hX dX3_clear_27 hX3 (List.mem_of_getElem? (i := 5) rfl) 0 rfl rfl ?_
  refine w_iconst (pc := 30) hX dX3_clear_30 ic_0 ?_
  refine w_iconst (pc := 31) hX dX3_clear_31 ic_0 ?_
  obtain ⟨r3, hr3, hm⟩ := bnd hm
  refine w_calldv (pc := 32) (ws' := wX3 G a_t (g1, g2, r1, r2, r3, v_t.2.2.2.2.2)) (os := [none, none, none, some 0, none]) 5 hX [3] (runSN (rest := []) hX [3] (ctX7_put G (a_t 3) 2 v_t.2.2.2.2.1 (0 : Int32) (0 : Int32) r3 hr3) dX3_clear_32 3 gX3_clear_X7_put_n41 rfl (List.mem_of_getElem? (i := 8) rfl) ⟨(List.mem_of_getElem? (i := 11) rfl), (List.mem_of_getElem? (i := 12) rfl)⟩ hyX7_put.2 ⟨Nat.le_of_ble_eq_true rfl, Nat.le_of_ble_eq_true rfl⟩ rfl rfl (Nat.le_of_ble_eq_true rfl) ⟨Nat.le_of_ble_eq_true rfl, Nat.le_of_ble_eq_true rfl⟩ rfl (by decide +kernel)) rfl rfl rfl (by decide +kernel) rfl ⟨rfl, rfl⟩ ?_
  refine w_aload_n (pc := 35) hX dX3_clear_35 rfl rfl ?_
  refine gf_X3_doorSides (pc := 36) hX dX3_clear_36 hX3 (List.mem_of_getElem? (i := 6) rfl) 0 rfl rfl ?_
  refine w_iconst (pc := 39) hX dX3_clear_39 ic_0 ?_
  refine w_iconst (pc := 40) hX dX3_clear_40 ic_3 ?_
  obtain ⟨r4, hr4, hm⟩ := bnd hm
  refine w_calldv (pc := 41) (ws' := wX3 G a_t (g1, g2, r1, r2, r3, r4)) (os := [none, none, none, none, some 0]) 5 hX [4] (runSN (rest := []) hX [4] (ctX7_put G (a_t 4) 2 v_t.2.2.2.2.2 (0 : Int32) (3 : Int32) r4 hr4) dX3_clear_41 3 gX3_clear_X7_put_n41 rfl (List.mem_of_getElem? (i := 8) rfl) ⟨(List.mem_of_getElem? (i := 11) rfl), (List.mem_of_getElem? (i := 12) rfl)⟩ hyX7_put.2 ⟨Nat.le_of_ble_eq_true rfl, Nat.le_of_ble_eq_true rfl⟩ rfl rfl (Nat.le_of_ble_eq_true rfl) ⟨Nat.le_of_ble_eq_true rfl, Nat.le_of_ble_eq_true rfl⟩ rfl (by decide +kernel)) rfl rfl rfl (by decide +kernel) rfl ⟨rfl, rfl⟩ ?_
  refine w_aload_n (pc := 44) hX dX3_clear_44 rfl rfl ?_
  refine gf_X3_doorCells (pc := 45) hX dX3_clear_45 hX3 (List.mem_of_getElem? (i := 5) rfl) 0 rfl rfl ?_
  refine w_iconst (pc := 48) hX dX3_clear_48 ic_1 ?_
  refine w_aload_n (pc := 49) hX dX3_clear_49 rfl rfl ?_
  obtain ⟨r5, hr5, hm⟩ := bnd hm
  refine w_callpi (pc := 50) hX [0, 1, 2, 3, 4] (runV (rest := [.int (1 : Int32), .ref (a_t 3)]) hX [0, 1, 2, 3, 4] (ctX3_cells G a_t (g1, g2, r1, r2, r3, r4) r5 hr5) dX3_clear_50 0 gX3_clear_X3_cells rfl hyX3_cells ⟨Nat.le_of_ble_eq_true rfl, Nat.le_of_ble_eq_true rfl⟩ 0 rfl rfl rfl rfl (Nat.le_of_ble_eq_true rfl) ⟨Nat.le_of_ble_eq_true rfl, Nat.le_of_ble_eq_true rfl⟩ rfl (by decide +kernel)) rfl ⟨rfl, rfl⟩ ?_
  refine w_iconst (pc := 53) hX dX3_clear_53 ic_1 ?_
  refine w_isub (pc := 54) hX dX3_clear_54 ?_
  obtain ⟨r6, hr6, hm⟩ := bnd hm
  refine w_calldv (pc := 55) (ws' := wX3 G a_t (g1, g2, r1, r2, r6, r4)) (os := [none, none, none, some 0, none]) 5 hX [3] (runSN (rest := []) hX [3] (ctX7_put G (a_t 3) 2 r3 (1 : Int32) (r5 - (1 : Int32)) r6 hr6) dX3_clear_55 3 gX3_clear_X7_put_n41 rfl (List.mem_of_getElem? (i := 8) rfl) ⟨(List.mem_of_getElem? (i := 11) rfl), (List.mem_of_getElem? (i := 12) rfl)⟩ hyX7_put.2 ⟨Nat.le_of_ble_eq_true rfl, Nat.le_of_ble_eq_true rfl⟩ rfl rfl (Nat.le_of_ble_eq_true rfl) ⟨Nat.le_of_ble_eq_true rfl, Nat.le_of_ble_eq_true rfl⟩ rfl (by decide +kernel)) rfl rfl rfl (by decide +kernel) rfl ⟨rfl, rfl⟩ ?_
  refine w_aload_n (pc := 58) hX dX3_clear_58 rfl rfl ?_
  refine gf_X3_doorSides (pc := 59) hX dX3_clear_59 hX3 (List.mem_of_getElem? (i := 6) rfl) 0 rfl rfl ?_
  refine w_iconst (pc := 62) hX dX3_clear_62 ic_1 ?_
  refine w_iconst (pc := 63) hX dX3_clear_63 ic_1 ?_
  obtain ⟨r7, hr7, hm⟩ := bnd hm
  refine w_calldv (pc := 64) (ws' := wX3 G a_t (g1, g2, r1, r2, r6, r7)) (os := [none, none, none, none, some 0]) 5 hX [4] (runSN (rest := []) hX [4] (ctX7_put G (a_t 4) 2 r4 (1 : Int32) (1 : Int32) r7 hr7) dX3_clear_64 3 gX3_clear_X7_put_n41 rfl (List.mem_of_getElem? (i := 8) rfl) ⟨(List.mem_of_getElem? (i := 11) rfl), (List.mem_of_getElem? (i := 12) rfl)⟩ hyX7_put.2 ⟨Nat.le_of_ble_eq_true rfl, Nat.le_of_ble_eq_true rfl⟩ rfl rfl (Nat.le_of_ble_eq_true rfl) ⟨Nat.le_of_ble_eq_true rfl, Nat.le_of_ble_eq_true rfl⟩ rfl (by decide +kernel)) rfl rfl rfl (by decide +kernel) rfl ⟨rfl, rfl⟩ ?_
  obtain rfl := som hm
  exact w_vret (pc := 67) hX hR dX3_clear_67 ⟨rfl, rfl⟩

set_option maxHeartbeats 4000000 in
set_option maxRecDepth 100000 in
theorem ctX3_hasCell (G : gT) (a_t : Nat → Nat) (v_t : MZ) (g1 : Int32) (o : Int32) (hm : mX3_hasCell v_t g1 = some o) : CT G yX3_hasCell wsX3_hasCell rmX3_hasCell [.ref (a_t 0), .int g1] (wX3 G a_t v_t) (fun v w => v = some (.int o) ∧ w = wX3 G a_t v_t) := by
  refine CT_of (cc := cX3_hasCell) (maxL := 2) (ret := (some .boolean)) 0 (by decide +kernel) rfl rfl (cat_ok rfl) (fun X hX hR hN => ?_)
  have hX : Ok G X cX3_hasCell RX3 wsX3_hasCell 2 rmX3_hasCell := hX
  unfold mX3_hasCell at hm
  refine w_iload_n (pc := 0) hX dX3_hasCell_0 rfl rfl ?_
  refine w_jn (T := fun x1 : Int32 => WW G X 0 0 (wX3 G a_t v_t) [none, none] 17 [.int x1]) hm (fun x1 hm => ?_) (fun j2 hj2 hm => ?_)
  ·
    refine w_zret (pc := 17) hX hR dX3_hasCell_17 hm (fun hm => ?_)
    obtain rfl := som hm
    exact ⟨rfl, rfl⟩
  ·
    refine w_jn (T := fun x3 : Unit => WW G X 0 0 (wX3 G a_t v_t) [none, none] 16 []) hm (fun x3 hm => ?_) (fun j4 hj4 hm => ?_)
    ·
      refine w_iconst (pc := 16) hX dX3_hasCell_16 ic_0 ?_
      exact w_lvs [false, false] (hj2 (0 : Int32) hm)
    ·
      refine w_if_lt (pc := 1) (tgt := 16) hX dX3_hasCell_1 (by decide) hm (fun hm => ?_) (fun hm => ?_)
      ·
        exact w_lvs [false, false] (hj4 () hm)
      ·
        refine w_iload_n (pc := 4) hX dX3_hasCell_4 rfl rfl ?_
        refine w_aload_n (pc := 5) hX dX3_hasCell_5 rfl rfl ?_
        obtain ⟨r5, hr5, hm⟩ := bnd hm
        refine w_callpi (pc := 6) hX [0, 1, 2, 3, 4] (runV (rest := [.int g1]) hX [0, 1, 2, 3, 4] (ctX3_cells G a_t v_t r5 hr5) dX3_hasCell_6 0 gX3_hasCell_X3_cells rfl hyX3_cells ⟨Nat.le_of_ble_eq_true rfl, Nat.le_of_ble_eq_true rfl⟩ 0 rfl rfl rfl rfl (Nat.le_of_ble_eq_true rfl) ⟨Nat.le_of_ble_eq_true rfl, Nat.le_of_ble_eq_true rfl⟩ rfl (by decide +kernel)) rfl ⟨rfl, rfl⟩ ?_
        refine w_icmp_ge (pc := 9) (tgt := 16) hX dX3_hasCell_9 (by decide) hm (fun hm => ?_) (fun hm => ?_)
        ·
          exact w_lvs [false, false] (hj4 () hm)
        ·
          refine w_iconst (pc := 12) hX dX3_hasCell_12 ic_1 ?_
          refine w_goto (pc := 13) (tgt := 17) hX dX3_hasCell_13 (by decide) ?_
          exact w_lvs [false, false] (hj2 (1 : Int32) hm)

set_option maxHeartbeats 4000000 in
set_option maxRecDepth 100000 in
theorem ctX7_at (G : gT) (b_p0 : Nat) (n_p0 : Nat) (f_p0 : nF) (g1 : Int32) (o : Int32) (hm : mX7_at n_p0 f_p0 g1 = some o) : CT G yX7_at wsX7_at rmX7_at [.ref (b_p0), .int g1] ([(b_p0, .inl (G.2.1, n_p0, .inl f_p0))]) (fun v w => v = some (.int o) ∧ w = [(b_p0, .inl (G.2.1, n_p0, .inl f_p0))]) := by
  refine CT_of (cc := cX7_at) (maxL := 2) (ret := (some .int)) 0 (by decide +kernel) rfl rfl (cat_ok rfl) (fun X hX hR hN => ?_)
  have hX : Ok G X cX7_at RX7 wsX7_at 2 rmX7_at := hX
  unfold mX7_at at hm
  refine w_iload_n (pc := 0) hX dX7_at_0 rfl rfl ?_
  refine w_jn (T := fun x1 : Int32 => WW G X 0 0 ([(b_p0, .inl (G.2.1, n_p0, .inl f_p0))]) [none, none] 17 [.int x1]) hm (fun x1 hm => ?_) (fun j2 hj2 hm => ?_)
  ·
    obtain rfl := som hm
    exact w_iret (pc := 17) hX hR dX7_at_17 ⟨rfl, rfl⟩
  ·
    refine w_jn (T := fun x3 : Unit => WW G X 0 0 ([(b_p0, .inl (G.2.1, n_p0, .inl f_p0))]) [none, none] 16 []) hm (fun x3 hm => ?_) (fun j4 hj4 hm => ?_)
    ·
      refine w_iconst (pc := 16) hX dX7_at_16 ic_0 ?_
      exact w_lvs [false, false] (hj2 (0 : Int32) hm)
    ·
      refine w_if_lt (pc := 1) (tgt := 16) hX dX7_at_1 (by decide) hm (fun hm => ?_) (fun hm => ?_)
      ·
        exact w_lvs [false, false] (hj4 () hm)
      ·
        refine w_iload_n (pc := 4) hX dX7_at_4 rfl rfl ?_
        refine w_aload_n (pc := 5) hX dX7_at_5 rfl rfl ?_
        refine w_alen (pc := 6) hX dX7_at_6 0 rfl ?_
        refine w_icmp_ge (pc := 7) (tgt := 16) hX dX7_at_7 (by decide) hm (fun hm => ?_) (fun hm => ?_)
        ·
          exact w_lvs [false, false] (hj4 () hm)
        ·
          refine w_aload_n (pc := 10) hX dX7_at_10 rfl rfl ?_
          refine w_iload_n (pc := 11) hX dX7_at_11 rfl rfl ?_
          refine w_iald (pc := 12) hX dX7_at_12 0 rfl hm (fun hm => ?_)
          refine w_goto (pc := 13) (tgt := 17) hX dX7_at_13 (by decide) ?_
          exact w_lvs [false, false] (hj2 (f_p0 g1.toNatClampNeg) hm)

set_option maxHeartbeats 4000000 in
set_option maxRecDepth 100000 in
theorem ctX3_copyRow (G : gT) (F : Nat) (b_p0 : Nat) (b_p1 : Nat) (n_p0 : Nat) (f_p0 : nF) (n_p1 : Nat) (f_p1 : nF) (o : nF) (hm : mX3_copyRow F n_p0 f_p0 n_p1 f_p1 = some o) : CT G yX3_copyRow wsX3_copyRow rmX3_copyRow [.ref (b_p0), .ref (b_p1)] ([(b_p0, .inl (G.2.1, n_p0, .inl f_p0))] ++ [(b_p1, .inl (G.2.1, n_p1, .inl f_p1))]) (fun v w => v = none ∧ w = [(b_p0, .inl (G.2.1, n_p0, .inl f_p0))] ++ [(b_p1, .inl (G.2.1, n_p1, .inl o))]) := by
  refine CT_of (cc := cX3_copyRow) (maxL := 3) (ret := none) 1 (by decide +kernel) rfl rfl (cat_ok rfl) (fun X hX hR hN => ?_)
  have hX : Ok G X cX3_copyRow RX3 wsX3_copyRow 3 rmX3_copyRow := hX
  unfold mX3_copyRow at hm
  refine w_iconst (pc := 0) hX dX3_copyRow_0 ic_0 ?_
  refine w_istore_n (pc := 1) hX dX3_copyRow_1 rfl (Nat.le_of_ble_eq_true rfl) ?_
  refine w_jn (T := fun x1 : nF => WW G X 0 0 ([(b_p0, .inl (G.2.1, n_p0, .inl f_p0))] ++ [(b_p1, .inl (G.2.1, n_p1, .inl x1))]) [none, none, none] 26 []) hm (fun x1 hm => ?_) (fun j2 hj2 hm => ?_)
  ·
    unfold mX3_copyRow_K26 at hm
    obtain rfl := som hm
    exact w_vret (pc := 26) hX hR dX3_copyRow_26 ⟨rfl, rfl⟩
  ·
    refine w_lvs [true, true, true] ?_
    refine lpr_ind (T := fun x3 : (Int32 × nF) => WW G X 0 0 ([(b_p0, .inl (G.2.1, n_p0, .inl f_p0))] ++ [(b_p1, .inl (G.2.1, n_p1, .inl x3.2))]) [some (.ref (b_p0)), some (.ref (b_p1)), some (.int x3.1)] 2 []) (fun self4 hself4 x3 hm => ?_) F ((0 : Int32), f_p1) hm
    unfold mX3_copyRow_L2 at hm
    refine w_iload_n (pc := 2) hX dX3_copyRow_2 rfl rfl ?_
    refine w_aload_n (pc := 3) hX dX3_copyRow_3 rfl rfl ?_
    refine w_alen (pc := 4) hX dX3_copyRow_4 0 rfl ?_
    refine w_icmp_ge (pc := 5) (tgt := 26) hX dX3_copyRow_5 (by decide) hm (fun hm => ?_) (fun hm => ?_)
    ·
      exact w_lvs [false, false, false] (hj2 x3.2 hm)
    ·
      refine w_iload_n (pc := 8) hX dX3_copyRow_8 rfl rfl ?_
      refine w_aload_n (pc := 9) hX dX3_copyRow_9 rfl rfl ?_
      refine w_alen (pc := 10) hX dX3_copyRow_10 1 rfl ?_
      refine w_icmp_ge (pc := 11) (tgt := 26) hX dX3_copyRow_11 (by decide) hm (fun hm => ?_) (fun hm => ?_)
      ·
        exact w_lvs [false, false, false] (hj2 x3.2 hm)
      ·
        refine w_aload_n (pc := 14) hX dX3_copyRow_14 rfl rfl ?_
        refine w_iload_n (pc := 15) hX dX3_copyRow_15 rfl rfl ?_
        refine w_aload_n (pc := 16) hX dX3_copyRow_16 rfl rfl ?_
        refine w_iload_n (pc := 17) hX dX3_copyRow_17 rfl rfl ?_
        refine w_iald (pc := 18) hX dX3_copyRow_18 0 rfl hm (fun hm => ?_)
        refine w_iast (pc := 19) hX dX3_copyRow_19 1 rfl hm (fun hm => ?_)
        refine w_iinc (pc := 20) hX dX3_copyRow_20 rfl (Nat.le_of_ble_eq_true rfl) ic_1 ?_
        refine w_goto (pc := 23) (tgt := 2) hX dX3_copyRow_23 (by decide) ?_
        exact w_lvs [true, true, true] (hself4 (x3.1 + (1 : Int32), (upd x3.2 x3.1.toNatClampNeg (f_p0 x3.1.toNatClampNeg))) hm)

theorem lX3_copyFrom_X3 : ∀ w ∈ wsX30, w ∈ wsX3_copyFrom := in_at [11, 12, 13, 14, 15, 16] (by decide +kernel)
set_option maxHeartbeats 4000000 in
set_option maxRecDepth 100000 in
theorem ctX3_copyFrom (G : gT) (F : Nat) (a_t : Nat → Nat) (a_p1 : Nat → Nat) (v_t : MZ) (v_p1 : MZ) (o : MZ) (hm : mX3_copyFrom F v_t v_p1 = some o) : CT G yX3_copyFrom wsX3_copyFrom rmX3_copyFrom [.ref (a_t 0), .ref (a_p1 0)] (wX3 G a_t v_t ++ wX3 G a_p1 v_p1) (fun v w => v = none ∧ w = wX3 G a_t o ++ wX3 G a_p1 v_p1) := by
  refine CT_of (cc := cX3_copyFrom) (maxL := 2) (ret := none) 0 (by decide +kernel) rfl rfl (cat_ok rfl) (fun X hX hR hN => ?_)
  have hX : Ok G X cX3_copyFrom RX3 wsX3_copyFrom 2 rmX3_copyFrom := hX
  have hX3 : ∀ w ∈ wsX30, w ∈ wsX3_copyFrom := lX3_copyFrom_X3
  unfold mX3_copyFrom at hm
  refine w_aload_n (pc := 0) hX dX3_copyFrom_0 rfl rfl ?_
  refine w_aload_n (pc := 1) hX dX3_copyFrom_1 rfl rfl ?_
  refine gf_X3_columns (pc := 2) hX dX3_copyFrom_2 hX3 (List.mem_of_getElem? (i := 1) rfl) 5 rfl rfl ?_
  refine pf_X3_columns (pc := 5) hX dX3_copyFrom_5 hX3 (List.mem_of_getElem? (i := 1) rfl) 0 rfl rfl ?_
  refine w_aload_n (pc := 8) hX dX3_copyFrom_8 rfl rfl ?_
  refine w_aload_n (pc := 9) hX dX3_copyFrom_9 rfl rfl ?_
  refine gf_X3_rows (pc := 10) hX dX3_copyFrom_10 hX3 (List.mem_of_getElem? (i := 2) rfl) 5 rfl rfl ?_
  refine pf_X3_rows (pc := 13) hX dX3_copyFrom_13 hX3 (List.mem_of_getElem? (i := 2) rfl) 0 rfl rfl ?_
  refine w_aload_n (pc := 16) hX dX3_copyFrom_16 rfl rfl ?_
  refine gf_X3_tones (pc := 17) hX dX3_copyFrom_17 hX3 (List.mem_of_getElem? (i := 3) rfl) 5 rfl rfl ?_
  refine w_aload_n (pc := 20) hX dX3_copyFrom_20 rfl rfl ?_
  refine gf_X3_tones (pc := 21) hX dX3_copyFrom_21 hX3 (List.mem_of_getElem? (i := 3) rfl) 0 rfl rfl ?_
  obtain ⟨r1, hr1, hm⟩ := bnd hm
  refine w_calldv (pc := 24) (ws' := wX3 G a_t (v_p1.1, v_p1.2.1, r1, v_t.2.2.2.1, v_t.2.2.2.2.1, v_t.2.2.2.2.2) ++ wX3 G a_p1 v_p1) (os := [none, some 1, none, none, none, none, some 0, none, none, none]) 10 hX [6, 1] (runS (rest := []) hX [6, 1] (ctX3_copyRow G F (a_p1 1) (a_t 1) 36 v_p1.2.2.1 36 v_t.2.2.1 r1 hr1) dX3_copyFrom_24 2 gX3_copyFrom_X3_copyRow rfl hyX3_copyRow.2 ⟨Nat.le_of_ble_eq_true rfl, Nat.le_of_ble_eq_true rfl⟩ rfl rfl (Nat.le_of_ble_eq_true rfl) ⟨Nat.le_of_ble_eq_true rfl, Nat.le_of_ble_eq_true rfl⟩ rfl (by decide +kernel)) rfl rfl rfl (by decide +kernel) rfl ⟨rfl, rfl⟩ ?_
  refine w_aload_n (pc := 27) hX dX3_copyFrom_27 rfl rfl ?_
  refine gf_X3_passages (pc := 28) hX dX3_copyFrom_28 hX3 (List.mem_of_getElem? (i := 4) rfl) 5 rfl rfl ?_
  refine w_aload_n (pc := 31) hX dX3_copyFrom_31 rfl rfl ?_
  refine gf_X3_passages (pc := 32) hX dX3_copyFrom_32 hX3 (List.mem_of_getElem? (i := 4) rfl) 0 rfl rfl ?_
  obtain ⟨r2, hr2, hm⟩ := bnd hm
  refine w_calldv (pc := 35) (ws' := wX3 G a_t (v_p1.1, v_p1.2.1, r1, r2, v_t.2.2.2.2.1, v_t.2.2.2.2.2) ++ wX3 G a_p1 v_p1) (os := [none, none, some 1, none, none, none, none, some 0, none, none]) 10 hX [7, 2] (runS (rest := []) hX [7, 2] (ctX3_copyRow G F (a_p1 2) (a_t 2) 36 v_p1.2.2.2.1 36 v_t.2.2.2.1 r2 hr2) dX3_copyFrom_35 2 gX3_copyFrom_X3_copyRow rfl hyX3_copyRow.2 ⟨Nat.le_of_ble_eq_true rfl, Nat.le_of_ble_eq_true rfl⟩ rfl rfl (Nat.le_of_ble_eq_true rfl) ⟨Nat.le_of_ble_eq_true rfl, Nat.le_of_ble_eq_true rfl⟩ rfl (by decide +kernel)) rfl rfl rfl (by decide +kernel) rfl ⟨rfl, rfl⟩ ?_
  refine w_aload_n (pc := 38) hX dX3_copyFrom_38 rfl rfl ?_
  refine gf_X3_doorCells (pc := 39) hX dX3_copyFrom_39 hX3 (List.mem_of_getElem? (i := 5) rfl) 5 rfl rfl ?_
  refine w_aload_n (pc := 42) hX dX3_copyFrom_42 rfl rfl ?_
  refine gf_X3_doorCells (pc := 43) hX dX3_copyFrom_43 hX3 (List.mem_of_getElem? (i := 5) rfl) 0 rfl rfl ?_
  obtain ⟨r3, hr3, hm⟩ := bnd hm
  refine w_calldv (pc := 46) (ws' := wX3 G a_t (v_p1.1, v_p1.2.1, r1, r2, r3, v_t.2.2.2.2.2) ++ wX3 G a_p1 v_p1) (os := [none, none, none, some 1, none, none, none, none, some 0, none]) 10 hX [8, 3] (runS (rest := []) hX [8, 3] (ctX3_copyRow G F (a_p1 3) (a_t 3) 2 v_p1.2.2.2.2.1 2 v_t.2.2.2.2.1 r3 hr3) dX3_copyFrom_46 2 gX3_copyFrom_X3_copyRow rfl hyX3_copyRow.2 ⟨Nat.le_of_ble_eq_true rfl, Nat.le_of_ble_eq_true rfl⟩ rfl rfl (Nat.le_of_ble_eq_true rfl) ⟨Nat.le_of_ble_eq_true rfl, Nat.le_of_ble_eq_true rfl⟩ rfl (by decide +kernel)) rfl rfl rfl (by decide +kernel) rfl ⟨rfl, rfl⟩ ?_
  refine w_aload_n (pc := 49) hX dX3_copyFrom_49 rfl rfl ?_
  refine gf_X3_doorSides (pc := 50) hX dX3_copyFrom_50 hX3 (List.mem_of_getElem? (i := 6) rfl) 5 rfl rfl ?_
  refine w_aload_n (pc := 53) hX dX3_copyFrom_53 rfl rfl ?_
  refine gf_X3_doorSides (pc := 54) hX dX3_copyFrom_54 hX3 (List.mem_of_getElem? (i := 6) rfl) 0 rfl rfl ?_
  obtain ⟨r4, hr4, hm⟩ := bnd hm
  refine w_calldv (pc := 57) (ws' := wX3 G a_t (v_p1.1, v_p1.2.1, r1, r2, r3, r4) ++ wX3 G a_p1 v_p1) (os := [none, none, none, none, some 1, none, none, none, none, some 0]) 10 hX [9, 4] (runS (rest := []) hX [9, 4] (ctX3_copyRow G F (a_p1 4) (a_t 4) 2 v_p1.2.2.2.2.2 2 v_t.2.2.2.2.2 r4 hr4) dX3_copyFrom_57 2 gX3_copyFrom_X3_copyRow rfl hyX3_copyRow.2 ⟨Nat.le_of_ble_eq_true rfl, Nat.le_of_ble_eq_true rfl⟩ rfl rfl (Nat.le_of_ble_eq_true rfl) ⟨Nat.le_of_ble_eq_true rfl, Nat.le_of_ble_eq_true rfl⟩ rfl (by decide +kernel)) rfl rfl rfl (by decide +kernel) rfl ⟨rfl, rfl⟩ ?_
  obtain rfl := som hm
  exact w_vret (pc := 60) hX hR dX3_copyFrom_60 ⟨rfl, rfl⟩

set_option maxHeartbeats 4000000 in
set_option maxRecDepth 100000 in
theorem ctX7_isDirection (G : gT) (g0 : Int32) (o : Int32) (hm : mX7_isDirection g0 = some o) : CT G yX7_isDirection wsX7_isDirection rmX7_isDirection [.int g0] ([]) (fun v w => v = some (.int o) ∧ w = []) := by
  refine CT_of (cc := cX7_isDirection) (maxL := 1) (ret := (some .boolean)) 0 (by decide +kernel) rfl rfl (cat_ok rfl) (fun X hX hR hN => ?_)
  have hX : Ok G X cX7_isDirection RX7 wsX7_isDirection 1 rmX7_isDirection := hX
  unfold mX7_isDirection at hm
  refine w_iload_n (pc := 0) hX dX7_isDirection_0 rfl rfl ?_
  refine w_jn (T := fun x1 : Int32 => WW G X 0 0 ([]) [none] 14 [.int x1]) hm (fun x1 hm => ?_) (fun j2 hj2 hm => ?_)
  ·
    refine w_zret (pc := 14) hX hR dX7_isDirection_14 hm (fun hm => ?_)
    obtain rfl := som hm
    exact ⟨rfl, rfl⟩
  ·
    refine w_jn (T := fun x3 : Unit => WW G X 0 0 ([]) [none] 13 []) hm (fun x3 hm => ?_) (fun j4 hj4 hm => ?_)
    ·
      refine w_iconst (pc := 13) hX dX7_isDirection_13 ic_0 ?_
      exact w_lvs [false] (hj2 (0 : Int32) hm)
    ·
      refine w_if_lt (pc := 1) (tgt := 13) hX dX7_isDirection_1 (by decide) hm (fun hm => ?_) (fun hm => ?_)
      ·
        exact w_lvs [false] (hj4 () hm)
      ·
        refine w_iload_n (pc := 4) hX dX7_isDirection_4 rfl rfl ?_
        refine w_iconst (pc := 5) hX dX7_isDirection_5 ic_4 ?_
        refine w_icmp_ge (pc := 6) (tgt := 13) hX dX7_isDirection_6 (by decide) hm (fun hm => ?_) (fun hm => ?_)
        ·
          exact w_lvs [false] (hj4 () hm)
        ·
          refine w_iconst (pc := 9) hX dX7_isDirection_9 ic_1 ?_
          refine w_goto (pc := 10) (tgt := 14) hX dX7_isDirection_10 (by decide) ?_
          exact w_lvs [false] (hj2 (1 : Int32) hm)

theorem lX3_beside_X3 : ∀ w ∈ wsX30, w ∈ wsX3_beside := in_at [3, 4, 5, 6, 7, 8] (by decide +kernel)
set_option maxHeartbeats 4000000 in
set_option maxRecDepth 100000 in
theorem ctX3_beside (G : gT) (a_t : Nat → Nat) (v_t : MZ) (g1 : Int32) (g2 : Int32) (o : Int32) (hm : mX3_beside v_t g1 g2 = some o) : CT G yX3_beside wsX3_beside rmX3_beside [.ref (a_t 0), .int g1, .int g2] (wX3 G a_t v_t) (fun v w => v = some (.int o) ∧ w = wX3 G a_t v_t) := by
  refine CT_of (cc := cX3_beside) (maxL := 5) (ret := (some .int)) 2 (by decide +kernel) rfl rfl (cat_ok rfl) (fun X hX hR hN => ?_)
  have hX : Ok G X cX3_beside RX3 wsX3_beside 5 rmX3_beside := hX
  have hX3 : ∀ w ∈ wsX30, w ∈ wsX3_beside := lX3_beside_X3
  unfold mX3_beside at hm
  refine w_aload_n (pc := 0) hX dX3_beside_0 rfl rfl ?_
  refine gf_X3_columns (pc := 1) hX dX3_beside_1 hX3 (List.mem_of_getElem? (i := 1) rfl) 0 rfl rfl ?_
  refine w_aload_n (pc := 4) hX dX3_beside_4 rfl rfl ?_
  refine gf_X3_rows (pc := 5) hX dX3_beside_5 hX3 (List.mem_of_getElem? (i := 2) rfl) 0 rfl rfl ?_
  refine w_imul (pc := 8) hX dX3_beside_8 ?_
  refine w_istore_n (pc := 9) hX dX3_beside_9 rfl (Nat.le_of_ble_eq_true rfl) ?_
  refine w_iload_n (pc := 10) hX dX3_beside_10 rfl rfl ?_
  refine w_jn (T := fun x1 : Unit => WW G X 0 0 (wX3 G a_t v_t) [none, none, none, none, none] 26 []) hm (fun x1 hm => ?_) (fun j2 hj2 hm => ?_)
  ·
    refine w_iconst (pc := 26) hX dX3_beside_26 ic_m1 ?_
    obtain rfl := som hm
    exact w_iret (pc := 27) hX hR dX3_beside_27 ⟨rfl, rfl⟩
  ·
    refine w_if_lt (pc := 11) (tgt := 26) hX dX3_beside_11 (by decide) hm (fun hm => ?_) (fun hm => ?_)
    ·
      exact w_lvs [false, false, false, false, false] (hj2 () hm)
    ·
      refine w_iload_n (pc := 14) hX dX3_beside_14 rfl rfl ?_
      refine w_iload_n (pc := 15) hX dX3_beside_15 rfl rfl ?_
      refine w_icmp_ge (pc := 16) (tgt := 26) hX dX3_beside_16 (by decide) hm (fun hm => ?_) (fun hm => ?_)
      ·
        exact w_lvs [false, false, false, false, false] (hj2 () hm)
      ·
        refine w_aload_n (pc := 19) hX dX3_beside_19 rfl rfl ?_
        refine gf_X3_columns (pc := 20) hX dX3_beside_20 hX3 (List.mem_of_getElem? (i := 1) rfl) 0 rfl rfl ?_
        refine w_if_gt (pc := 23) (tgt := 28) hX dX3_beside_23 (by decide) hm (fun hm => ?_) (fun hm => ?_)
        ·
          refine w_iload_n (pc := 28) hX dX3_beside_28 rfl rfl ?_
          refine w_aload_n (pc := 29) hX dX3_beside_29 rfl rfl ?_
          refine gf_X3_columns (pc := 30) hX dX3_beside_30 hX3 (List.mem_of_getElem? (i := 1) rfl) 0 rfl rfl ?_
          refine w_irem (pc := 33) hX dX3_beside_33 hm (fun hm => ?_)
          refine w_istore (pc := 34) hX dX3_beside_34 (Nat.le_of_ble_eq_true rfl) ?_
          refine w_iload_n (pc := 36) hX dX3_beside_36 rfl rfl ?_
          rcases Decidable.em (g2 = (0 : Int32)) with hc3 | hc3
          ·
            replace hm := ite_t hm hc3
            refine w_tabIn (pc := 37) (tgt := 68) hX dX3_beside_37 0 (by rw [hc3]; decide) (by decide) (by decide) rfl (by decide) ?_
            refine w_iload_n (pc := 68) hX dX3_beside_68 rfl rfl ?_
            refine w_aload_n (pc := 69) hX dX3_beside_69 rfl rfl ?_
            refine gf_X3_columns (pc := 70) hX dX3_beside_70 hX3 (List.mem_of_getElem? (i := 1) rfl) 0 rfl rfl ?_
            refine w_jn (T := fun x4 : Int32 => WW G X 0 0 (wX3 G a_t v_t) [none, none, none, none, none] 86 [.int x4]) hm (fun x4 hm => ?_) (fun j5 hj5 hm => ?_)
            ·
              obtain rfl := som hm
              exact w_iret (pc := 86) hX hR dX3_beside_86 ⟨rfl, rfl⟩
            ·
              refine w_icmp_lt (pc := 73) (tgt := 85) hX dX3_beside_73 (by decide) hm (fun hm => ?_) (fun hm => ?_)
              ·
                refine w_iconst (pc := 85) hX dX3_beside_85 ic_m1 ?_
                exact w_lvs [false, false, false, false, false] (hj5 (-1 : Int32) hm)
              ·
                refine w_iload_n (pc := 76) hX dX3_beside_76 rfl rfl ?_
                refine w_aload_n (pc := 77) hX dX3_beside_77 rfl rfl ?_
                refine gf_X3_columns (pc := 78) hX dX3_beside_78 hX3 (List.mem_of_getElem? (i := 1) rfl) 0 rfl rfl ?_
                refine w_isub (pc := 81) hX dX3_beside_81 ?_
                refine w_goto (pc := 82) (tgt := 86) hX dX3_beside_82 (by decide) ?_
                exact w_lvs [false, false, false, false, false] (hj5 (g1 - v_t.1) hm)
          ·
            replace hm := ite_f hm hc3
            rcases Decidable.em (g2 = (1 : Int32)) with hc6 | hc6
            ·
              replace hm := ite_t hm hc6
              refine w_tabIn (pc := 37) (tgt := 87) hX dX3_beside_37 1 (by rw [hc6]; decide) (by decide) (by decide) rfl (by decide) ?_
              refine w_iload (pc := 87) hX dX3_beside_87 rfl ?_
              refine w_aload_n (pc := 89) hX dX3_beside_89 rfl rfl ?_
              refine gf_X3_columns (pc := 90) hX dX3_beside_90 hX3 (List.mem_of_getElem? (i := 1) rfl) 0 rfl rfl ?_
              refine w_iconst (pc := 93) hX dX3_beside_93 ic_1 ?_
              refine w_isub (pc := 94) hX dX3_beside_94 ?_
              refine w_jn (T := fun x7 : Int32 => WW G X 0 0 (wX3 G a_t v_t) [none, none, none, none, none] 105 [.int x7]) hm (fun x7 hm => ?_) (fun j8 hj8 hm => ?_)
              ·
                obtain rfl := som hm
                exact w_iret (pc := 105) hX hR dX3_beside_105 ⟨rfl, rfl⟩
              ·
                refine w_icmp_ge (pc := 95) (tgt := 104) hX dX3_beside_95 (by decide) hm (fun hm => ?_) (fun hm => ?_)
                ·
                  refine w_iconst (pc := 104) hX dX3_beside_104 ic_m1 ?_
                  exact w_lvs [false, false, false, false, false] (hj8 (-1 : Int32) hm)
                ·
                  refine w_iload_n (pc := 98) hX dX3_beside_98 rfl rfl ?_
                  refine w_iconst (pc := 99) hX dX3_beside_99 ic_1 ?_
                  refine w_iadd (pc := 100) hX dX3_beside_100 ?_
                  refine w_goto (pc := 101) (tgt := 105) hX dX3_beside_101 (by decide) ?_
                  exact w_lvs [false, false, false, false, false] (hj8 (g1 + (1 : Int32)) hm)
            ·
              replace hm := ite_f hm hc6
              rcases Decidable.em (g2 = (2 : Int32)) with hc9 | hc9
              ·
                replace hm := ite_t hm hc9
                refine w_tabIn (pc := 37) (tgt := 106) hX dX3_beside_37 2 (by rw [hc9]; decide) (by decide) (by decide) rfl (by decide) ?_
                refine w_iload_n (pc := 106) hX dX3_beside_106 rfl rfl ?_
                refine w_aload_n (pc := 107) hX dX3_beside_107 rfl rfl ?_
                refine gf_X3_columns (pc := 108) hX dX3_beside_108 hX3 (List.mem_of_getElem? (i := 1) rfl) 0 rfl rfl ?_
                refine w_iadd (pc := 111) hX dX3_beside_111 ?_
                refine w_iload_n (pc := 112) hX dX3_beside_112 rfl rfl ?_
                refine w_jn (T := fun x10 : Int32 => WW G X 0 0 (wX3 G a_t v_t) [none, none, none, none, none] 126 [.int x10]) hm (fun x10 hm => ?_) (fun j11 hj11 hm => ?_)
                ·
                  obtain rfl := som hm
                  exact w_iret (pc := 126) hX hR dX3_beside_126 ⟨rfl, rfl⟩
                ·
                  refine w_icmp_ge (pc := 113) (tgt := 125) hX dX3_beside_113 (by decide) hm (fun hm => ?_) (fun hm => ?_)
                  ·
                    refine w_iconst (pc := 125) hX dX3_beside_125 ic_m1 ?_
                    exact w_lvs [false, false, false, false, false] (hj11 (-1 : Int32) hm)
                  ·
                    refine w_iload_n (pc := 116) hX dX3_beside_116 rfl rfl ?_
                    refine w_aload_n (pc := 117) hX dX3_beside_117 rfl rfl ?_
                    refine gf_X3_columns (pc := 118) hX dX3_beside_118 hX3 (List.mem_of_getElem? (i := 1) rfl) 0 rfl rfl ?_
                    refine w_iadd (pc := 121) hX dX3_beside_121 ?_
                    refine w_goto (pc := 122) (tgt := 126) hX dX3_beside_122 (by decide) ?_
                    exact w_lvs [false, false, false, false, false] (hj11 (g1 + v_t.1) hm)
              ·
                replace hm := ite_f hm hc9
                rcases Decidable.em (g2 = (3 : Int32)) with hc12 | hc12
                ·
                  replace hm := ite_t hm hc12
                  refine w_tabIn (pc := 37) (tgt := 127) hX dX3_beside_37 3 (by rw [hc12]; decide) (by decide) (by decide) rfl (by decide) ?_
                  refine w_iload (pc := 127) hX dX3_beside_127 rfl ?_
                  refine w_jn (T := fun x13 : Int32 => WW G X 0 0 (wX3 G a_t v_t) [none, none, none, none, none] 139 [.int x13]) hm (fun x13 hm => ?_) (fun j14 hj14 hm => ?_)
                  ·
                    obtain rfl := som hm
                    exact w_iret (pc := 139) hX hR dX3_beside_139 ⟨rfl, rfl⟩
                  ·
                    refine w_if_le (pc := 129) (tgt := 138) hX dX3_beside_129 (by decide) hm (fun hm => ?_) (fun hm => ?_)
                    ·
                      refine w_iconst (pc := 138) hX dX3_beside_138 ic_m1 ?_
                      exact w_lvs [false, false, false, false, false] (hj14 (-1 : Int32) hm)
                    ·
                      refine w_iload_n (pc := 132) hX dX3_beside_132 rfl rfl ?_
                      refine w_iconst (pc := 133) hX dX3_beside_133 ic_1 ?_
                      refine w_isub (pc := 134) hX dX3_beside_134 ?_
                      refine w_goto (pc := 135) (tgt := 139) hX dX3_beside_135 (by decide) ?_
                      exact w_lvs [false, false, false, false, false] (hj14 (g1 - (1 : Int32)) hm)
                ·
                  replace hm := ite_f hm hc12
                  refine w_tabOut (pc := 37) (tgt := 140) hX dX3_beside_37 (tsw_out (n := 3) (fun i hi => by rcases (show i = 0 ∨ i = 1 ∨ i = 2 ∨ i = 3 by omega) with rfl | rfl | rfl | rfl <;> assumption)) (by decide) ?_
                  refine w_iconst (pc := 140) hX dX3_beside_140 ic_m1 ?_
                  obtain rfl := som hm
                  exact w_iret (pc := 141) hX hR dX3_beside_141 ⟨rfl, rfl⟩
        ·
          exact w_lvs [false, false, false, false, false] (hj2 () hm)

theorem lX3_hasPassage_X3 : ∀ w ∈ wsX30, w ∈ wsX3_hasPassage := in_at [5, 6, 7, 8, 9, 10] (by decide +kernel)
set_option maxHeartbeats 4000000 in
set_option maxRecDepth 100000 in
theorem ctX3_hasPassage (G : gT) (a_t : Nat → Nat) (v_t : MZ) (g1 : Int32) (g2 : Int32) (o : Int32) (hm : mX3_hasPassage v_t g1 g2 = some o) : CT G yX3_hasPassage wsX3_hasPassage rmX3_hasPassage [.ref (a_t 0), .int g1, .int g2] (wX3 G a_t v_t) (fun v w => v = some (.int o) ∧ w = wX3 G a_t v_t) := by
  refine CT_of (cc := cX3_hasPassage) (maxL := 3) (ret := (some .boolean)) 0 (by decide +kernel) rfl rfl (cat_ok rfl) (fun X hX hR hN => ?_)
  have hX : Ok G X cX3_hasPassage RX3 wsX3_hasPassage 3 rmX3_hasPassage := hX
  have hX3 : ∀ w ∈ wsX30, w ∈ wsX3_hasPassage := lX3_hasPassage_X3
  unfold mX3_hasPassage at hm
  refine w_aload_n (pc := 0) hX dX3_hasPassage_0 rfl rfl ?_
  refine gf_X3_passages (pc := 1) hX dX3_hasPassage_1 hX3 (List.mem_of_getElem? (i := 1) rfl) 0 rfl rfl ?_
  refine w_iload_n (pc := 4) hX dX3_hasPassage_4 rfl rfl ?_
  obtain ⟨r1, hr1, hm⟩ := bnd hm
  refine w_callpi (pc := 5) hX [2] (runSN (rest := []) hX [2] (ctX7_at G (a_t 2) 36 v_t.2.2.2.1 g1 r1 hr1) dX3_hasPassage_5 2 gX3_hasPassage_X7_at_n53 rfl (List.mem_of_getElem? (i := 9) rfl) ⟨(List.mem_of_getElem? (i := 2) rfl), (List.mem_of_getElem? (i := 3) rfl)⟩ hyX7_at.2 ⟨Nat.le_of_ble_eq_true rfl, Nat.le_of_ble_eq_true rfl⟩ rfl rfl (Nat.le_of_ble_eq_true rfl) ⟨Nat.le_of_ble_eq_true rfl, Nat.le_of_ble_eq_true rfl⟩ rfl (by decide +kernel)) rfl ⟨rfl, rfl⟩ ?_
  refine w_iconst (pc := 8) hX dX3_hasPassage_8 ic_1 ?_
  refine w_iload_n (pc := 9) hX dX3_hasPassage_9 rfl rfl ?_
  refine w_ishl (pc := 10) hX dX3_hasPassage_10 ?_
  refine w_iand (pc := 11) hX dX3_hasPassage_11 ?_
  refine w_jn (T := fun x2 : Int32 => WW G X 0 0 (wX3 G a_t v_t) [none, none, none] 20 [.int x2]) hm (fun x2 hm => ?_) (fun j3 hj3 hm => ?_)
  ·
    refine w_zret (pc := 20) hX hR dX3_hasPassage_20 hm (fun hm => ?_)
    obtain rfl := som hm
    exact ⟨rfl, rfl⟩
  ·
    refine w_if_eq (pc := 12) (tgt := 19) hX dX3_hasPassage_12 (by decide) hm (fun hm => ?_) (fun hm => ?_)
    ·
      refine w_iconst (pc := 19) hX dX3_hasPassage_19 ic_0 ?_
      exact w_lvs [false, false, false] (hj3 (0 : Int32) hm)
    ·
      refine w_iconst (pc := 15) hX dX3_hasPassage_15 ic_1 ?_
      refine w_goto (pc := 16) (tgt := 20) hX dX3_hasPassage_16 (by decide) ?_
      exact w_lvs [false, false, false] (hj3 (1 : Int32) hm)

theorem lX3_setOpen_X3 : ∀ w ∈ wsX30, w ∈ wsX3_setOpen := in_at [7, 8, 9, 10, 11, 12] (by decide +kernel)
set_option maxHeartbeats 4000000 in
set_option maxRecDepth 100000 in
theorem ctX3_setOpen (G : gT) (a_t : Nat → Nat) (v_t : MZ) (g1 : Int32) (g2 : Int32) (g3 : Int32) (o : nF) (hm : mX3_setOpen v_t g1 g2 g3 = some o) : CT G yX3_setOpen wsX3_setOpen rmX3_setOpen [.ref (a_t 0), .int g1, .int g2, .int g3] (wX3 G a_t v_t) (fun v w => v = none ∧ w = wX3 G a_t (v_t.1, v_t.2.1, v_t.2.2.1, o, v_t.2.2.2.2.1, v_t.2.2.2.2.2)) := by
  refine CT_of (cc := cX3_setOpen) (maxL := 5) (ret := none) 1 (by decide +kernel) rfl rfl (cat_ok rfl) (fun X hX hR hN => ?_)
  have hX : Ok G X cX3_setOpen RX3 wsX3_setOpen 5 rmX3_setOpen := hX
  have hX3 : ∀ w ∈ wsX30, w ∈ wsX3_setOpen := lX3_setOpen_X3
  unfold mX3_setOpen at hm
  refine w_aload_n (pc := 0) hX dX3_setOpen_0 rfl rfl ?_
  refine gf_X3_passages (pc := 1) hX dX3_setOpen_1 hX3 (List.mem_of_getElem? (i := 1) rfl) 0 rfl rfl ?_
  refine w_iload_n (pc := 4) hX dX3_setOpen_4 rfl rfl ?_
  obtain ⟨r1, hr1, hm⟩ := bnd hm
  refine w_callpi (pc := 5) hX [2] (runSN (rest := []) hX [2] (ctX7_at G (a_t 2) 36 v_t.2.2.2.1 g1 r1 hr1) dX3_setOpen_5 2 gX3_setOpen_X7_at_n53 rfl (List.mem_of_getElem? (i := 9) rfl) ⟨(List.mem_of_getElem? (i := 2) rfl), (List.mem_of_getElem? (i := 3) rfl)⟩ hyX7_at.2 ⟨Nat.le_of_ble_eq_true rfl, Nat.le_of_ble_eq_true rfl⟩ rfl rfl (Nat.le_of_ble_eq_true rfl) ⟨Nat.le_of_ble_eq_true rfl, Nat.le_of_ble_eq_true rfl⟩ rfl (by decide +kernel)) rfl ⟨rfl, rfl⟩ ?_
  refine w_iconst (pc := 8) hX dX3_setOpen_8 ic_1 ?_
  refine w_iload_n (pc := 9) hX dX3_setOpen_9 rfl rfl ?_
  refine w_ishl (pc := 10) hX dX3_setOpen_10 ?_
  refine w_iconst (pc := 11) hX dX3_setOpen_11 ic_m1 ?_
  refine w_ixor (pc := 12) hX dX3_setOpen_12 ?_
  refine w_iand (pc := 13) hX dX3_setOpen_13 ?_
  refine w_istore (pc := 14) hX dX3_setOpen_14 (Nat.le_of_ble_eq_true rfl) ?_
  refine w_aload_n (pc := 16) hX dX3_setOpen_16 rfl rfl ?_
  refine gf_X3_passages (pc := 17) hX dX3_setOpen_17 hX3 (List.mem_of_getElem? (i := 1) rfl) 0 rfl rfl ?_
  refine w_iload_n (pc := 20) hX dX3_setOpen_20 rfl rfl ?_
  refine w_iload_n (pc := 21) hX dX3_setOpen_21 rfl rfl ?_
  refine w_jn (T := fun x2 : Int32 => WW G X 0 0 (wX3 G a_t v_t) [none, none, none, none, none] 36 [.int x2, .int g1, .ref (a_t 2)]) hm (fun x2 hm => ?_) (fun j3 hj3 hm => ?_)
  ·
    obtain ⟨r4, hr4, hm⟩ := bnd hm
    refine w_calldv (pc := 36) (ws' := wX3 G a_t (v_t.1, v_t.2.1, v_t.2.2.1, r4, v_t.2.2.2.2.1, v_t.2.2.2.2.2)) (os := [none, none, some 0, none, none]) 5 hX [2] (runSN (rest := []) hX [2] (ctX7_put G (a_t 2) 36 v_t.2.2.2.1 g1 x2 r4 hr4) dX3_setOpen_36 3 gX3_setOpen_X7_put_n41 rfl (List.mem_of_getElem? (i := 8) rfl) ⟨(List.mem_of_getElem? (i := 5) rfl), (List.mem_of_getElem? (i := 3) rfl)⟩ hyX7_put.2 ⟨Nat.le_of_ble_eq_true rfl, Nat.le_of_ble_eq_true rfl⟩ rfl rfl (Nat.le_of_ble_eq_true rfl) ⟨Nat.le_of_ble_eq_true rfl, Nat.le_of_ble_eq_true rfl⟩ rfl (by decide +kernel)) rfl rfl rfl (by decide +kernel) rfl ⟨rfl, rfl⟩ ?_
    obtain rfl := som hm
    exact w_vret (pc := 39) hX hR dX3_setOpen_39 ⟨rfl, rfl⟩
  ·
    refine w_if_eq (pc := 22) (tgt := 34) hX dX3_setOpen_22 (by decide) hm (fun hm => ?_) (fun hm => ?_)
    ·
      refine w_iload (pc := 34) hX dX3_setOpen_34 rfl ?_
      exact w_lvs [false, false, false, false, false] (hj3 (r1 &&& (((1 : Int32) <<< (g2 &&& 31)) ^^^ (-1 : Int32))) hm)
    ·
      refine w_iload (pc := 25) hX dX3_setOpen_25 rfl ?_
      refine w_iconst (pc := 27) hX dX3_setOpen_27 ic_1 ?_
      refine w_iload_n (pc := 28) hX dX3_setOpen_28 rfl rfl ?_
      refine w_ishl (pc := 29) hX dX3_setOpen_29 ?_
      refine w_ior (pc := 30) hX dX3_setOpen_30 ?_
      refine w_goto (pc := 31) (tgt := 36) hX dX3_setOpen_31 (by decide) ?_
      exact w_lvs [false, false, false, false, false] (hj3 ((r1 &&& (((1 : Int32) <<< (g2 &&& 31)) ^^^ (-1 : Int32))) ||| ((1 : Int32) <<< (g2 &&& 31))) hm)

set_option maxHeartbeats 4000000 in
set_option maxRecDepth 100000 in
theorem ctX3_setPassage (G : gT) (a_t : Nat → Nat) (v_t : MZ) (g1 : Int32) (g2 : Int32) (g3 : Int32) (o : nF) (hm : mX3_setPassage v_t g1 g2 g3 = some o) : CT G yX3_setPassage wsX3_setPassage rmX3_setPassage [.ref (a_t 0), .int g1, .int g2, .int g3] (wX3 G a_t v_t) (fun v w => v = none ∧ w = wX3 G a_t (v_t.1, v_t.2.1, v_t.2.2.1, o, v_t.2.2.2.2.1, v_t.2.2.2.2.2)) := by
  refine CT_of (cc := cX3_setPassage) (maxL := 5) (ret := none) 1 (by decide +kernel) rfl rfl (cat_ok rfl) (fun X hX hR hN => ?_)
  have hX : Ok G X cX3_setPassage RX3 wsX3_setPassage 5 rmX3_setPassage := hX
  unfold mX3_setPassage at hm
  refine w_aload_n (pc := 0) hX dX3_setPassage_0 rfl rfl ?_
  refine w_iload_n (pc := 1) hX dX3_setPassage_1 rfl rfl ?_
  refine w_iload_n (pc := 2) hX dX3_setPassage_2 rfl rfl ?_
  obtain ⟨r1, hr1, hm⟩ := bnd hm
  refine w_callpi (pc := 3) hX [0, 1, 2, 3, 4] (runV (rest := []) hX [0, 1, 2, 3, 4] (ctX3_beside G a_t v_t g1 g2 r1 hr1) dX3_setPassage_3 2 gX3_setPassage_X3_beside rfl hyX3_beside ⟨Nat.le_of_ble_eq_true rfl, Nat.le_of_ble_eq_true rfl⟩ 0 rfl rfl rfl rfl (Nat.le_of_ble_eq_true rfl) ⟨Nat.le_of_ble_eq_true rfl, Nat.le_of_ble_eq_true rfl⟩ rfl (by decide +kernel)) rfl ⟨rfl, rfl⟩ ?_
  refine w_istore (pc := 6) hX dX3_setPassage_6 (Nat.le_of_ble_eq_true rfl) ?_
  refine w_iload (pc := 8) hX dX3_setPassage_8 rfl ?_
  refine w_iconst (pc := 10) hX dX3_setPassage_10 ic_m1 ?_
  refine w_jn (T := fun x2 : nF => WW G X 0 0 (wX3 G a_t (v_t.1, v_t.2.1, v_t.2.2.1, x2, v_t.2.2.2.2.1, v_t.2.2.2.2.2)) [none, none, none, none, none] 33 []) hm (fun x2 hm => ?_) (fun j3 hj3 hm => ?_)
  ·
    obtain rfl := som hm
    exact w_vret (pc := 33) hX hR dX3_setPassage_33 ⟨rfl, rfl⟩
  ·
    refine w_icmp_eq (pc := 11) (tgt := 33) hX dX3_setPassage_11 (by decide) hm (fun hm => ?_) (fun hm => ?_)
    ·
      exact w_lvs [false, false, false, false, false] (hj3 v_t.2.2.2.1 hm)
    ·
      refine w_aload_n (pc := 14) hX dX3_setPassage_14 rfl rfl ?_
      refine w_iload_n (pc := 15) hX dX3_setPassage_15 rfl rfl ?_
      refine w_iload_n (pc := 16) hX dX3_setPassage_16 rfl rfl ?_
      refine w_iload_n (pc := 17) hX dX3_setPassage_17 rfl rfl ?_
      obtain ⟨r4, hr4, hm⟩ := bnd hm
      refine w_calldv (pc := 18) (ws' := wX3 G a_t (v_t.1, v_t.2.1, v_t.2.2.1, r4, v_t.2.2.2.2.1, v_t.2.2.2.2.2)) (os := [some 0, some 1, some 2, some 3, some 4]) 5 hX [0, 1, 2, 3, 4] (runV (rest := []) hX [0, 1, 2, 3, 4] (ctX3_setOpen G a_t v_t g1 g2 g3 r4 hr4) dX3_setPassage_18 3 gX3_setPassage_X3_setOpen rfl hyX3_setOpen ⟨Nat.le_of_ble_eq_true rfl, Nat.le_of_ble_eq_true rfl⟩ 0 rfl rfl rfl rfl (Nat.le_of_ble_eq_true rfl) ⟨Nat.le_of_ble_eq_true rfl, Nat.le_of_ble_eq_true rfl⟩ rfl (by decide +kernel)) rfl rfl rfl (by decide +kernel) rfl ⟨rfl, rfl⟩ ?_
      refine w_aload_n (pc := 21) hX dX3_setPassage_21 rfl rfl ?_
      refine w_iload (pc := 22) hX dX3_setPassage_22 rfl ?_
      refine w_iload_n (pc := 24) hX dX3_setPassage_24 rfl rfl ?_
      refine w_iconst (pc := 25) hX dX3_setPassage_25 ic_2 ?_
      refine w_iadd (pc := 26) hX dX3_setPassage_26 ?_
      refine w_iconst (pc := 27) hX dX3_setPassage_27 ic_4 ?_
      refine w_irem (pc := 28) hX dX3_setPassage_28 hm (fun hm => ?_)
      refine w_iload_n (pc := 29) hX dX3_setPassage_29 rfl rfl ?_
      obtain ⟨r5, hr5, hm⟩ := bnd hm
      refine w_calldv (pc := 30) (ws' := wX3 G a_t (v_t.1, v_t.2.1, v_t.2.2.1, r5, v_t.2.2.2.2.1, v_t.2.2.2.2.2)) (os := [some 0, some 1, some 2, some 3, some 4]) 5 hX [0, 1, 2, 3, 4] (runV (rest := []) hX [0, 1, 2, 3, 4] (ctX3_setOpen G a_t (v_t.1, v_t.2.1, v_t.2.2.1, r4, v_t.2.2.2.2.1, v_t.2.2.2.2.2) r1 ((g2 + (2 : Int32)) - (g2 + (2 : Int32)) / (4 : Int32) * (4 : Int32)) g3 r5 hr5) dX3_setPassage_30 3 gX3_setPassage_X3_setOpen rfl hyX3_setOpen ⟨Nat.le_of_ble_eq_true rfl, Nat.le_of_ble_eq_true rfl⟩ 0 rfl rfl rfl rfl (Nat.le_of_ble_eq_true rfl) ⟨Nat.le_of_ble_eq_true rfl, Nat.le_of_ble_eq_true rfl⟩ rfl (by decide +kernel)) rfl rfl rfl (by decide +kernel) rfl ⟨rfl, rfl⟩ ?_
      exact w_lvs [false, false, false, false, false] (hj3 r5 hm)

set_option maxHeartbeats 4000000 in
set_option maxRecDepth 100000 in
theorem ctJ6_bitCount_0f7a4 (G : gT) (g0 : Int32) (o : Int32) (hm : mJ6_bitCount_0f7a4 g0 = some o) : CT G yJ6_bitCount_0f7a4 wsJ6_bitCount_0f7a4 rmJ6_bitCount_0f7a4 [.int g0] ([]) (fun v w => v = some (.int o) ∧ w = []) := by
  refine CT_of (cc := cJ6_bitCount_0f7a4) (maxL := 1) (ret := (some .int)) 0 (by decide +kernel) rfl rfl (cat_ok rfl) (fun X hX hR hN => ?_)
  have hX : Ok G X cJ6_bitCount_0f7a4 RJ6 wsJ6_bitCount_0f7a4 1 rmJ6_bitCount_0f7a4 := hX
  unfold mJ6_bitCount_0f7a4 at hm
  refine w_iload_n (pc := 0) hX dJ6_bitCount_0f7a4_0 rfl rfl ?_
  refine w_iload_n (pc := 1) hX dJ6_bitCount_0f7a4_1 rfl rfl ?_
  refine w_iconst (pc := 2) hX dJ6_bitCount_0f7a4_2 ic_1 ?_
  refine w_iushr (pc := 3) hX dJ6_bitCount_0f7a4_3 ?_
  refine w_ldc_w (pc := 4) hX dJ6_bitCount_0f7a4_4 (List.mem_of_getElem? (i := 1) rfl) ?_
  refine w_iand (pc := 7) hX dJ6_bitCount_0f7a4_7 ?_
  refine w_isub (pc := 8) hX dJ6_bitCount_0f7a4_8 ?_
  refine w_istore_n (pc := 9) hX dJ6_bitCount_0f7a4_9 rfl (Nat.le_of_ble_eq_true rfl) ?_
  refine w_iload_n (pc := 10) hX dJ6_bitCount_0f7a4_10 rfl rfl ?_
  refine w_ldc_w (pc := 11) hX dJ6_bitCount_0f7a4_11 (List.mem_of_getElem? (i := 2) rfl) ?_
  refine w_iand (pc := 14) hX dJ6_bitCount_0f7a4_14 ?_
  refine w_iload_n (pc := 15) hX dJ6_bitCount_0f7a4_15 rfl rfl ?_
  refine w_iconst (pc := 16) hX dJ6_bitCount_0f7a4_16 ic_2 ?_
  refine w_iushr (pc := 17) hX dJ6_bitCount_0f7a4_17 ?_
  refine w_ldc_w (pc := 18) hX dJ6_bitCount_0f7a4_18 (List.mem_of_getElem? (i := 2) rfl) ?_
  refine w_iand (pc := 21) hX dJ6_bitCount_0f7a4_21 ?_
  refine w_iadd (pc := 22) hX dJ6_bitCount_0f7a4_22 ?_
  refine w_istore_n (pc := 23) hX dJ6_bitCount_0f7a4_23 rfl (Nat.le_of_ble_eq_true rfl) ?_
  refine w_iload_n (pc := 24) hX dJ6_bitCount_0f7a4_24 rfl rfl ?_
  refine w_iload_n (pc := 25) hX dJ6_bitCount_0f7a4_25 rfl rfl ?_
  refine w_iconst (pc := 26) hX dJ6_bitCount_0f7a4_26 ic_4 ?_
  refine w_iushr (pc := 27) hX dJ6_bitCount_0f7a4_27 ?_
  refine w_iadd (pc := 28) hX dJ6_bitCount_0f7a4_28 ?_
  refine w_ldc_w (pc := 29) hX dJ6_bitCount_0f7a4_29 (List.mem_of_getElem? (i := 3) rfl) ?_
  refine w_iand (pc := 32) hX dJ6_bitCount_0f7a4_32 ?_
  refine w_istore_n (pc := 33) hX dJ6_bitCount_0f7a4_33 rfl (Nat.le_of_ble_eq_true rfl) ?_
  refine w_iload_n (pc := 34) hX dJ6_bitCount_0f7a4_34 rfl rfl ?_
  refine w_iload_n (pc := 35) hX dJ6_bitCount_0f7a4_35 rfl rfl ?_
  refine w_bipush (pc := 36) hX dJ6_bitCount_0f7a4_36 bp_8 ?_
  refine w_iushr (pc := 38) hX dJ6_bitCount_0f7a4_38 ?_
  refine w_iadd (pc := 39) hX dJ6_bitCount_0f7a4_39 ?_
  refine w_istore_n (pc := 40) hX dJ6_bitCount_0f7a4_40 rfl (Nat.le_of_ble_eq_true rfl) ?_
  refine w_iload_n (pc := 41) hX dJ6_bitCount_0f7a4_41 rfl rfl ?_
  refine w_iload_n (pc := 42) hX dJ6_bitCount_0f7a4_42 rfl rfl ?_
  refine w_bipush (pc := 43) hX dJ6_bitCount_0f7a4_43 bp_16 ?_
  refine w_iushr (pc := 45) hX dJ6_bitCount_0f7a4_45 ?_
  refine w_iadd (pc := 46) hX dJ6_bitCount_0f7a4_46 ?_
  refine w_istore_n (pc := 47) hX dJ6_bitCount_0f7a4_47 rfl (Nat.le_of_ble_eq_true rfl) ?_
  refine w_iload_n (pc := 48) hX dJ6_bitCount_0f7a4_48 rfl rfl ?_
  refine w_bipush (pc := 49) hX dJ6_bitCount_0f7a4_49 bp_63 ?_
  refine w_iand (pc := 51) hX dJ6_bitCount_0f7a4_51 ?_
  obtain rfl := som hm
  exact w_iret (pc := 52) hX hR dJ6_bitCount_0f7a4_52 ⟨rfl, rfl⟩

theorem lX3_passageCount_X3 : ∀ w ∈ wsX30, w ∈ wsX3_passageCount := in_at [19, 20, 21, 22, 23, 24] (by decide +kernel)
set_option maxHeartbeats 4000000 in
set_option maxRecDepth 100000 in
theorem ctX3_passageCount (G : gT) (F : Nat) (a_t : Nat → Nat) (v_t : MZ) (o : Int32) (hm : mX3_passageCount F v_t = some o) : CT G yX3_passageCount wsX3_passageCount rmX3_passageCount [.ref (a_t 0)] (wX3 G a_t v_t) (fun v w => v = some (.int o) ∧ w = wX3 G a_t v_t) := by
  refine CT_of (cc := cX3_passageCount) (maxL := 3) (ret := (some .int)) 2 (by decide +kernel) rfl rfl (cat_ok rfl) (fun X hX hR hN => ?_)
  have hX : Ok G X cX3_passageCount RX3 wsX3_passageCount 3 rmX3_passageCount := hX
  have hX3 : ∀ w ∈ wsX30, w ∈ wsX3_passageCount := lX3_passageCount_X3
  unfold mX3_passageCount at hm
  refine w_iconst (pc := 0) hX dX3_passageCount_0 ic_0 ?_
  refine w_istore_n (pc := 1) hX dX3_passageCount_1 rfl (Nat.le_of_ble_eq_true rfl) ?_
  refine w_iconst (pc := 2) hX dX3_passageCount_2 ic_0 ?_
  refine w_istore_n (pc := 3) hX dX3_passageCount_3 rfl (Nat.le_of_ble_eq_true rfl) ?_
  refine w_lvs [true, true, true] ?_
  refine lpr_ind (T := fun x1 : (Int32 × Int32) => WW G X 0 0 (wX3 G a_t v_t) [some (.ref (a_t 0)), some (.int x1.1), some (.int x1.2)] 4 []) (fun self2 hself2 x1 hm => ?_) F ((0 : Int32), (0 : Int32)) hm
  unfold mX3_passageCount_L4 at hm
  refine w_iload_n (pc := 4) hX dX3_passageCount_4 rfl rfl ?_
  refine w_aload_n (pc := 5) hX dX3_passageCount_5 rfl rfl ?_
  obtain ⟨r3, hr3, hm⟩ := bnd hm
  refine w_callpi (pc := 6) hX [0, 1, 2, 3, 4] (runV (rest := [.int x1.2]) hX [0, 1, 2, 3, 4] (ctX3_cells G a_t v_t r3 hr3) dX3_passageCount_6 0 gX3_passageCount_X3_cells rfl hyX3_cells ⟨Nat.le_of_ble_eq_true rfl, Nat.le_of_ble_eq_true rfl⟩ 0 rfl rfl rfl rfl (Nat.le_of_ble_eq_true rfl) ⟨Nat.le_of_ble_eq_true rfl, Nat.le_of_ble_eq_true rfl⟩ rfl (by decide +kernel)) rfl ⟨rfl, rfl⟩ ?_
  refine w_icmp_ge (pc := 9) (tgt := 32) hX dX3_passageCount_9 (by decide) hm (fun hm => ?_) (fun hm => ?_)
  ·
    refine w_iload_n (pc := 32) hX dX3_passageCount_32 rfl rfl ?_
    refine w_iconst (pc := 33) hX dX3_passageCount_33 ic_2 ?_
    refine w_idiv (pc := 34) hX dX3_passageCount_34 hm (fun hm => ?_)
    obtain rfl := som hm
    exact w_iret (pc := 35) hX hR dX3_passageCount_35 ⟨rfl, rfl⟩
  ·
    refine w_iload_n (pc := 12) hX dX3_passageCount_12 rfl rfl ?_
    refine w_aload_n (pc := 13) hX dX3_passageCount_13 rfl rfl ?_
    refine gf_X3_passages (pc := 14) hX dX3_passageCount_14 hX3 (List.mem_of_getElem? (i := 1) rfl) 0 rfl rfl ?_
    refine w_iload_n (pc := 17) hX dX3_passageCount_17 rfl rfl ?_
    obtain ⟨r4, hr4, hm⟩ := bnd hm
    refine w_callpi (pc := 18) hX [2] (runSN (rest := [.int x1.1]) hX [2] (ctX7_at G (a_t 2) 36 v_t.2.2.2.1 x1.2 r4 hr4) dX3_passageCount_18 2 gX3_passageCount_X7_at_n53 rfl (List.mem_of_getElem? (i := 9) rfl) ⟨(List.mem_of_getElem? (i := 9) rfl), (List.mem_of_getElem? (i := 10) rfl)⟩ hyX7_at.2 ⟨Nat.le_of_ble_eq_true rfl, Nat.le_of_ble_eq_true rfl⟩ rfl rfl (Nat.le_of_ble_eq_true rfl) ⟨Nat.le_of_ble_eq_true rfl, Nat.le_of_ble_eq_true rfl⟩ rfl (by decide +kernel)) rfl ⟨rfl, rfl⟩ ?_
    obtain ⟨r5, hr5, hm⟩ := bnd hm
    refine w_callpi (pc := 21) hX [] (runS (rest := [.int x1.1]) hX [] (ctJ6_bitCount_0f7a4 G r4 r5 hr5) dX3_passageCount_21 1 gX3_passageCount_J6_bitCount_0f7a4 rfl hyJ6_bitCount_0f7a4.2 ⟨Nat.le_of_ble_eq_true rfl, Nat.le_of_ble_eq_true rfl⟩ rfl rfl (Nat.le_of_ble_eq_true rfl) ⟨Nat.le_of_ble_eq_true rfl, Nat.le_of_ble_eq_true rfl⟩ rfl (by decide +kernel)) rfl ⟨rfl, rfl⟩ ?_
    refine w_iadd (pc := 24) hX dX3_passageCount_24 ?_
    refine w_istore_n (pc := 25) hX dX3_passageCount_25 rfl (Nat.le_of_ble_eq_true rfl) ?_
    refine w_iinc (pc := 26) hX dX3_passageCount_26 rfl (Nat.le_of_ble_eq_true rfl) ic_1 ?_
    refine w_goto (pc := 29) (tgt := 4) hX dX3_passageCount_29 (by decide) ?_
    exact w_lvs [true, true, true] (hself2 (x1.1 + r5, x1.2 + (1 : Int32)) hm)

set_option maxHeartbeats 4000000 in
set_option maxRecDepth 100000 in
theorem ctX3_parts (G : gT) (F : Nat) (a_t : Nat → Nat) (v_t : MZ) (o : Int32) (hm : mX3_parts F v_t = some o) : CT G yX3_parts wsX3_parts rmX3_parts [.ref (a_t 0)] (wX3 G a_t v_t) (fun v w => v = some (.int o) ∧ w = wX3 G a_t v_t) := by
  refine CT_of (cc := cX3_parts) (maxL := 1) (ret := (some .int)) 0 (by decide +kernel) rfl rfl (cat_ok rfl) (fun X hX hR hN => ?_)
  have hX : Ok G X cX3_parts RX3 wsX3_parts 1 rmX3_parts := hX
  unfold mX3_parts at hm
  refine w_aload_n (pc := 0) hX dX3_parts_0 rfl rfl ?_
  obtain ⟨r1, hr1, hm⟩ := bnd hm
  refine w_callpi (pc := 1) hX [0, 1, 2, 3, 4] (runV (rest := []) hX [0, 1, 2, 3, 4] (ctX3_cells G a_t v_t r1 hr1) dX3_parts_1 0 gX3_parts_X3_cells rfl hyX3_cells ⟨Nat.le_of_ble_eq_true rfl, Nat.le_of_ble_eq_true rfl⟩ 0 rfl rfl rfl rfl (Nat.le_of_ble_eq_true rfl) ⟨Nat.le_of_ble_eq_true rfl, Nat.le_of_ble_eq_true rfl⟩ rfl (by decide +kernel)) rfl ⟨rfl, rfl⟩ ?_
  refine w_aload_n (pc := 4) hX dX3_parts_4 rfl rfl ?_
  obtain ⟨r2, hr2, hm⟩ := bnd hm
  refine w_callpi (pc := 5) hX [0, 1, 2, 3, 4] (runV (rest := [.int r1]) hX [0, 1, 2, 3, 4] (ctX3_passageCount G F a_t v_t r2 hr2) dX3_parts_5 0 gX3_parts_X3_passageCount rfl hyX3_passageCount ⟨Nat.le_of_ble_eq_true rfl, Nat.le_of_ble_eq_true rfl⟩ 0 rfl rfl rfl rfl (Nat.le_of_ble_eq_true rfl) ⟨Nat.le_of_ble_eq_true rfl, Nat.le_of_ble_eq_true rfl⟩ rfl (by decide +kernel)) rfl ⟨rfl, rfl⟩ ?_
  refine w_isub (pc := 8) hX dX3_parts_8 ?_
  obtain rfl := som hm
  exact w_iret (pc := 9) hX hR dX3_parts_9 ⟨rfl, rfl⟩

set_option maxHeartbeats 4000000 in
set_option maxRecDepth 100000 in
theorem ctX7_isDoor (G : gT) (g0 : Int32) (o : Int32) (hm : mX7_isDoor g0 = some o) : CT G yX7_isDoor wsX7_isDoor rmX7_isDoor [.int g0] ([]) (fun v w => v = some (.int o) ∧ w = []) := by
  refine CT_of (cc := cX7_isDoor) (maxL := 1) (ret := (some .boolean)) 0 (by decide +kernel) rfl rfl (cat_ok rfl) (fun X hX hR hN => ?_)
  have hX : Ok G X cX7_isDoor RX7 wsX7_isDoor 1 rmX7_isDoor := hX
  unfold mX7_isDoor at hm
  refine w_iload_n (pc := 0) hX dX7_isDoor_0 rfl rfl ?_
  refine w_jn (T := fun x1 : Int32 => WW G X 0 0 ([]) [none] 14 [.int x1]) hm (fun x1 hm => ?_) (fun j2 hj2 hm => ?_)
  ·
    refine w_zret (pc := 14) hX hR dX7_isDoor_14 hm (fun hm => ?_)
    obtain rfl := som hm
    exact ⟨rfl, rfl⟩
  ·
    refine w_jn (T := fun x3 : Unit => WW G X 0 0 ([]) [none] 13 []) hm (fun x3 hm => ?_) (fun j4 hj4 hm => ?_)
    ·
      refine w_iconst (pc := 13) hX dX7_isDoor_13 ic_0 ?_
      exact w_lvs [false] (hj2 (0 : Int32) hm)
    ·
      refine w_if_lt (pc := 1) (tgt := 13) hX dX7_isDoor_1 (by decide) hm (fun hm => ?_) (fun hm => ?_)
      ·
        exact w_lvs [false] (hj4 () hm)
      ·
        refine w_iload_n (pc := 4) hX dX7_isDoor_4 rfl rfl ?_
        refine w_iconst (pc := 5) hX dX7_isDoor_5 ic_2 ?_
        refine w_icmp_ge (pc := 6) (tgt := 13) hX dX7_isDoor_6 (by decide) hm (fun hm => ?_) (fun hm => ?_)
        ·
          exact w_lvs [false] (hj4 () hm)
        ·
          refine w_iconst (pc := 9) hX dX7_isDoor_9 ic_1 ?_
          refine w_goto (pc := 10) (tgt := 14) hX dX7_isDoor_10 (by decide) ?_
          exact w_lvs [false] (hj2 (1 : Int32) hm)

theorem lX3_isDoorAt_X3 : ∀ w ∈ wsX30, w ∈ wsX3_isDoorAt := in_at [6, 7, 8, 9, 10, 11] (by decide +kernel)
set_option maxHeartbeats 4000000 in
set_option maxRecDepth 100000 in
theorem ctX3_isDoorAt (G : gT) (a_t : Nat → Nat) (v_t : MZ) (g1 : Int32) (g2 : Int32) (g3 : Int32) (o : Int32) (hm : mX3_isDoorAt v_t g1 g2 g3 = some o) : CT G yX3_isDoorAt wsX3_isDoorAt rmX3_isDoorAt [.ref (a_t 0), .int g1, .int g2, .int g3] (wX3 G a_t v_t) (fun v w => v = some (.int o) ∧ w = wX3 G a_t v_t) := by
  refine CT_of (cc := cX3_isDoorAt) (maxL := 4) (ret := (some .boolean)) 0 (by decide +kernel) rfl rfl (cat_ok rfl) (fun X hX hR hN => ?_)
  have hX : Ok G X cX3_isDoorAt RX3 wsX3_isDoorAt 4 rmX3_isDoorAt := hX
  have hX3 : ∀ w ∈ wsX30, w ∈ wsX3_isDoorAt := lX3_isDoorAt_X3
  unfold mX3_isDoorAt at hm
  refine w_aload_n (pc := 0) hX dX3_isDoorAt_0 rfl rfl ?_
  refine gf_X3_doorCells (pc := 1) hX dX3_isDoorAt_1 hX3 (List.mem_of_getElem? (i := 1) rfl) 0 rfl rfl ?_
  refine w_iload_n (pc := 4) hX dX3_isDoorAt_4 rfl rfl ?_
  obtain ⟨r1, hr1, hm⟩ := bnd hm
  refine w_callpi (pc := 5) hX [3] (runSN (rest := []) hX [3] (ctX7_at G (a_t 3) 2 v_t.2.2.2.2.1 g1 r1 hr1) dX3_isDoorAt_5 2 gX3_isDoorAt_X7_at_n53 rfl (List.mem_of_getElem? (i := 9) rfl) ⟨(List.mem_of_getElem? (i := 3) rfl), (List.mem_of_getElem? (i := 4) rfl)⟩ hyX7_at.2 ⟨Nat.le_of_ble_eq_true rfl, Nat.le_of_ble_eq_true rfl⟩ rfl rfl (Nat.le_of_ble_eq_true rfl) ⟨Nat.le_of_ble_eq_true rfl, Nat.le_of_ble_eq_true rfl⟩ rfl (by decide +kernel)) rfl ⟨rfl, rfl⟩ ?_
  refine w_iload_n (pc := 8) hX dX3_isDoorAt_8 rfl rfl ?_
  refine w_jn (T := fun x2 : Int32 => WW G X 0 0 (wX3 G a_t v_t) [none, none, none, none] 29 [.int x2]) hm (fun x2 hm => ?_) (fun j3 hj3 hm => ?_)
  ·
    refine w_zret (pc := 29) hX hR dX3_isDoorAt_29 hm (fun hm => ?_)
    obtain rfl := som hm
    exact ⟨rfl, rfl⟩
  ·
    refine w_jn (T := fun x4 : Unit => WW G X 0 0 (wX3 G a_t v_t) [none, none, none, none] 28 []) hm (fun x4 hm => ?_) (fun j5 hj5 hm => ?_)
    ·
      refine w_iconst (pc := 28) hX dX3_isDoorAt_28 ic_0 ?_
      exact w_lvs [false, false, false, false] (hj3 (0 : Int32) hm)
    ·
      refine w_icmp_ne (pc := 9) (tgt := 28) hX dX3_isDoorAt_9 (by decide) hm (fun hm => ?_) (fun hm => ?_)
      ·
        exact w_lvs [false, false, false, false] (hj5 () hm)
      ·
        refine w_aload_n (pc := 12) hX dX3_isDoorAt_12 rfl rfl ?_
        refine gf_X3_doorSides (pc := 13) hX dX3_isDoorAt_13 hX3 (List.mem_of_getElem? (i := 2) rfl) 0 rfl rfl ?_
        refine w_iload_n (pc := 16) hX dX3_isDoorAt_16 rfl rfl ?_
        obtain ⟨r6, hr6, hm⟩ := bnd hm
        refine w_callpi (pc := 17) hX [4] (runSN (rest := []) hX [4] (ctX7_at G (a_t 4) 2 v_t.2.2.2.2.2 g1 r6 hr6) dX3_isDoorAt_17 2 gX3_isDoorAt_X7_at_n53 rfl (List.mem_of_getElem? (i := 9) rfl) ⟨(List.mem_of_getElem? (i := 3) rfl), (List.mem_of_getElem? (i := 4) rfl)⟩ hyX7_at.2 ⟨Nat.le_of_ble_eq_true rfl, Nat.le_of_ble_eq_true rfl⟩ rfl rfl (Nat.le_of_ble_eq_true rfl) ⟨Nat.le_of_ble_eq_true rfl, Nat.le_of_ble_eq_true rfl⟩ rfl (by decide +kernel)) rfl ⟨rfl, rfl⟩ ?_
        refine w_iload_n (pc := 20) hX dX3_isDoorAt_20 rfl rfl ?_
        refine w_icmp_ne (pc := 21) (tgt := 28) hX dX3_isDoorAt_21 (by decide) hm (fun hm => ?_) (fun hm => ?_)
        ·
          exact w_lvs [false, false, false, false] (hj5 () hm)
        ·
          refine w_iconst (pc := 24) hX dX3_isDoorAt_24 ic_1 ?_
          refine w_goto (pc := 25) (tgt := 29) hX dX3_isDoorAt_25 (by decide) ?_
          exact w_lvs [false, false, false, false] (hj3 (1 : Int32) hm)

set_option maxHeartbeats 4000000 in
set_option maxRecDepth 100000 in
theorem ctX3_isWhole (G : gT) (F : Nat) (a_t : Nat → Nat) (v_t : MZ) (o : Int32) (hm : mX3_isWhole F v_t = some o) : CT G yX3_isWhole wsX3_isWhole rmX3_isWhole [.ref (a_t 0)] (wX3 G a_t v_t) (fun v w => v = some (.int o) ∧ w = wX3 G a_t v_t) := by
  refine CT_of (cc := cX3_isWhole) (maxL := 1) (ret := (some .boolean)) 0 (by decide +kernel) rfl rfl (cat_ok rfl) (fun X hX hR hN => ?_)
  have hX : Ok G X cX3_isWhole RX3 wsX3_isWhole 1 rmX3_isWhole := hX
  unfold mX3_isWhole at hm
  refine w_aload_n (pc := 0) hX dX3_isWhole_0 rfl rfl ?_
  obtain ⟨r1, hr1, hm⟩ := bnd hm
  refine w_callpi (pc := 1) hX [0, 1, 2, 3, 4] (runV (rest := []) hX [0, 1, 2, 3, 4] (ctX3_parts G F a_t v_t r1 hr1) dX3_isWhole_1 0 gX3_isWhole_X3_parts rfl hyX3_parts ⟨Nat.le_of_ble_eq_true rfl, Nat.le_of_ble_eq_true rfl⟩ 0 rfl rfl rfl rfl (Nat.le_of_ble_eq_true rfl) ⟨Nat.le_of_ble_eq_true rfl, Nat.le_of_ble_eq_true rfl⟩ rfl (by decide +kernel)) rfl ⟨rfl, rfl⟩ ?_
  refine w_iconst (pc := 4) hX dX3_isWhole_4 ic_1 ?_
  refine w_jn (T := fun x2 : Int32 => WW G X 0 0 (wX3 G a_t v_t) [none] 13 [.int x2]) hm (fun x2 hm => ?_) (fun j3 hj3 hm => ?_)
  ·
    refine w_zret (pc := 13) hX hR dX3_isWhole_13 hm (fun hm => ?_)
    obtain rfl := som hm
    exact ⟨rfl, rfl⟩
  ·
    refine w_icmp_ne (pc := 5) (tgt := 12) hX dX3_isWhole_5 (by decide) hm (fun hm => ?_) (fun hm => ?_)
    ·
      refine w_iconst (pc := 12) hX dX3_isWhole_12 ic_0 ?_
      exact w_lvs [false] (hj3 (0 : Int32) hm)
    ·
      refine w_iconst (pc := 8) hX dX3_isWhole_8 ic_1 ?_
      refine w_goto (pc := 9) (tgt := 13) hX dX3_isWhole_9 (by decide) ?_
      exact w_lvs [false] (hj3 (1 : Int32) hm)

set_option maxHeartbeats 4000000 in
set_option maxRecDepth 100000 in
theorem ctX3_places (G : gT) (a_t : Nat → Nat) (v_t : MZ) (o : Int32) (hm : mX3_places v_t = some o) : CT G yX3_places wsX3_places rmX3_places [.ref (a_t 0)] (wX3 G a_t v_t) (fun v w => v = some (.int o) ∧ w = wX3 G a_t v_t) := by
  refine CT_of (cc := cX3_places) (maxL := 1) (ret := (some .int)) 0 (by decide +kernel) rfl rfl (cat_ok rfl) (fun X hX hR hN => ?_)
  have hX : Ok G X cX3_places RX3 wsX3_places 1 rmX3_places := hX
  unfold mX3_places at hm
  refine w_iconst (pc := 0) hX dX3_places_0 ic_2 ?_
  refine w_aload_n (pc := 1) hX dX3_places_1 rfl rfl ?_
  obtain ⟨r1, hr1, hm⟩ := bnd hm
  refine w_callpi (pc := 2) hX [0, 1, 2, 3, 4] (runV (rest := [.int (2 : Int32)]) hX [0, 1, 2, 3, 4] (ctX3_cells G a_t v_t r1 hr1) dX3_places_2 0 gX3_places_X3_cells rfl hyX3_cells ⟨Nat.le_of_ble_eq_true rfl, Nat.le_of_ble_eq_true rfl⟩ 0 rfl rfl rfl rfl (Nat.le_of_ble_eq_true rfl) ⟨Nat.le_of_ble_eq_true rfl, Nat.le_of_ble_eq_true rfl⟩ rfl (by decide +kernel)) rfl ⟨rfl, rfl⟩ ?_
  refine w_imul (pc := 5) hX dX3_places_5 ?_
  obtain rfl := som hm
  exact w_iret (pc := 6) hX hR dX3_places_6 ⟨rfl, rfl⟩

set_option maxHeartbeats 4000000 in
set_option maxRecDepth 100000 in
theorem ctX3_lowEnd (G : gT) (a_t : Nat → Nat) (v_t : MZ) (g1 : Int32) (o : Int32) (hm : mX3_lowEnd g1 = some o) : CT G yX3_lowEnd wsX3_lowEnd rmX3_lowEnd [.ref (a_t 0), .int g1] (wX3 G a_t v_t) (fun v w => v = some (.int o) ∧ w = wX3 G a_t v_t) := by
  refine CT_of (cc := cX3_lowEnd) (maxL := 2) (ret := (some .int)) 0 (by decide +kernel) rfl rfl (cat_ok rfl) (fun X hX hR hN => ?_)
  have hX : Ok G X cX3_lowEnd RX3 wsX3_lowEnd 2 rmX3_lowEnd := hX
  unfold mX3_lowEnd at hm
  refine w_iload_n (pc := 0) hX dX3_lowEnd_0 rfl rfl ?_
  refine w_iconst (pc := 1) hX dX3_lowEnd_1 ic_1 ?_
  refine w_ishr (pc := 2) hX dX3_lowEnd_2 ?_
  obtain rfl := som hm
  exact w_iret (pc := 3) hX hR dX3_lowEnd_3 ⟨rfl, rfl⟩

set_option maxHeartbeats 4000000 in
set_option maxRecDepth 100000 in
theorem ctX3_placeDirection (G : gT) (g0 : Int32) (o : Int32) (hm : mX3_placeDirection g0 = some o) : CT G yX3_placeDirection wsX3_placeDirection rmX3_placeDirection [.int g0] ([]) (fun v w => v = some (.int o) ∧ w = []) := by
  refine CT_of (cc := cX3_placeDirection) (maxL := 1) (ret := (some .int)) 0 (by decide +kernel) rfl rfl (cat_ok rfl) (fun X hX hR hN => ?_)
  have hX : Ok G X cX3_placeDirection RX3 wsX3_placeDirection 1 rmX3_placeDirection := hX
  unfold mX3_placeDirection at hm
  refine w_iload_n (pc := 0) hX dX3_placeDirection_0 rfl rfl ?_
  refine w_iconst (pc := 1) hX dX3_placeDirection_1 ic_1 ?_
  refine w_iand (pc := 2) hX dX3_placeDirection_2 ?_
  refine w_jn (T := fun x1 : Int32 => WW G X 0 0 ([]) [none] 11 [.int x1]) hm (fun x1 hm => ?_) (fun j2 hj2 hm => ?_)
  ·
    obtain rfl := som hm
    exact w_iret (pc := 11) hX hR dX3_placeDirection_11 ⟨rfl, rfl⟩
  ·
    refine w_if_ne (pc := 3) (tgt := 10) hX dX3_placeDirection_3 (by decide) hm (fun hm => ?_) (fun hm => ?_)
    ·
      refine w_iconst (pc := 10) hX dX3_placeDirection_10 ic_2 ?_
      exact w_lvs [false] (hj2 (2 : Int32) hm)
    ·
      refine w_iconst (pc := 6) hX dX3_placeDirection_6 ic_1 ?_
      refine w_goto (pc := 7) (tgt := 11) hX dX3_placeDirection_7 (by decide) ?_
      exact w_lvs [false] (hj2 (1 : Int32) hm)

set_option maxHeartbeats 4000000 in
set_option maxRecDepth 100000 in
theorem ctX3_isOpenPlace (G : gT) (a_t : Nat → Nat) (v_t : MZ) (g1 : Int32) (o : Int32) (hm : mX3_isOpenPlace v_t g1 = some o) : CT G yX3_isOpenPlace wsX3_isOpenPlace rmX3_isOpenPlace [.ref (a_t 0), .int g1] (wX3 G a_t v_t) (fun v w => v = some (.int o) ∧ w = wX3 G a_t v_t) := by
  refine CT_of (cc := cX3_isOpenPlace) (maxL := 2) (ret := (some .boolean)) 0 (by decide +kernel) rfl rfl (cat_ok rfl) (fun X hX hR hN => ?_)
  have hX : Ok G X cX3_isOpenPlace RX3 wsX3_isOpenPlace 2 rmX3_isOpenPlace := hX
  unfold mX3_isOpenPlace at hm
  refine w_aload_n (pc := 0) hX dX3_isOpenPlace_0 rfl rfl ?_
  refine w_aload_n (pc := 1) hX dX3_isOpenPlace_1 rfl rfl ?_
  refine w_iload_n (pc := 2) hX dX3_isOpenPlace_2 rfl rfl ?_
  obtain ⟨r1, hr1, hm⟩ := bnd hm
  refine w_callpi (pc := 3) hX [0, 1, 2, 3, 4] (runV (rest := [.ref (a_t 0)]) hX [0, 1, 2, 3, 4] (ctX3_lowEnd G a_t v_t g1 r1 hr1) dX3_isOpenPlace_3 1 gX3_isOpenPlace_X3_lowEnd rfl hyX3_lowEnd ⟨Nat.le_of_ble_eq_true rfl, Nat.le_of_ble_eq_true rfl⟩ 0 rfl rfl rfl rfl (Nat.le_of_ble_eq_true rfl) ⟨Nat.le_of_ble_eq_true rfl, Nat.le_of_ble_eq_true rfl⟩ rfl (by decide +kernel)) rfl ⟨rfl, rfl⟩ ?_
  refine w_iload_n (pc := 6) hX dX3_isOpenPlace_6 rfl rfl ?_
  obtain ⟨r2, hr2, hm⟩ := bnd hm
  refine w_callpi (pc := 7) hX [] (runS (rest := [.int r1, .ref (a_t 0)]) hX [] (ctX3_placeDirection G g1 r2 hr2) dX3_isOpenPlace_7 1 gX3_isOpenPlace_X3_placeDirection rfl hyX3_placeDirection.2 ⟨Nat.le_of_ble_eq_true rfl, Nat.le_of_ble_eq_true rfl⟩ rfl rfl (Nat.le_of_ble_eq_true rfl) ⟨Nat.le_of_ble_eq_true rfl, Nat.le_of_ble_eq_true rfl⟩ rfl (by decide +kernel)) rfl ⟨rfl, rfl⟩ ?_
  obtain ⟨r3, hr3, hm⟩ := bnd hm
  refine w_callpi (pc := 10) hX [0, 1, 2, 3, 4] (runV (rest := []) hX [0, 1, 2, 3, 4] (ctX3_hasPassage G a_t v_t r1 r2 r3 hr3) dX3_isOpenPlace_10 2 gX3_isOpenPlace_X3_hasPassage rfl hyX3_hasPassage ⟨Nat.le_of_ble_eq_true rfl, Nat.le_of_ble_eq_true rfl⟩ 0 rfl rfl rfl rfl (Nat.le_of_ble_eq_true rfl) ⟨Nat.le_of_ble_eq_true rfl, Nat.le_of_ble_eq_true rfl⟩ rfl (by decide +kernel)) rfl ⟨rfl, rfl⟩ ?_
  refine w_zret (pc := 13) hX hR dX3_isOpenPlace_13 hm (fun hm => ?_)
  obtain rfl := som hm
  exact ⟨rfl, rfl⟩

set_option maxHeartbeats 4000000 in
set_option maxRecDepth 100000 in
theorem ctX3_highEnd (G : gT) (a_t : Nat → Nat) (v_t : MZ) (g1 : Int32) (o : Int32) (hm : mX3_highEnd v_t g1 = some o) : CT G yX3_highEnd wsX3_highEnd rmX3_highEnd [.ref (a_t 0), .int g1] (wX3 G a_t v_t) (fun v w => v = some (.int o) ∧ w = wX3 G a_t v_t) := by
  refine CT_of (cc := cX3_highEnd) (maxL := 2) (ret := (some .int)) 0 (by decide +kernel) rfl rfl (cat_ok rfl) (fun X hX hR hN => ?_)
  have hX : Ok G X cX3_highEnd RX3 wsX3_highEnd 2 rmX3_highEnd := hX
  unfold mX3_highEnd at hm
  refine w_aload_n (pc := 0) hX dX3_highEnd_0 rfl rfl ?_
  refine w_aload_n (pc := 1) hX dX3_highEnd_1 rfl rfl ?_
  refine w_iload_n (pc := 2) hX dX3_highEnd_2 rfl rfl ?_
  obtain ⟨r1, hr1, hm⟩ := bnd hm
  refine w_callpi (pc := 3) hX [0, 1, 2, 3, 4] (runV (rest := [.ref (a_t 0)]) hX [0, 1, 2, 3, 4] (ctX3_lowEnd G a_t v_t g1 r1 hr1) dX3_highEnd_3 1 gX3_highEnd_X3_lowEnd rfl hyX3_lowEnd ⟨Nat.le_of_ble_eq_true rfl, Nat.le_of_ble_eq_true rfl⟩ 0 rfl rfl rfl rfl (Nat.le_of_ble_eq_true rfl) ⟨Nat.le_of_ble_eq_true rfl, Nat.le_of_ble_eq_true rfl⟩ rfl (by decide +kernel)) rfl ⟨rfl, rfl⟩ ?_
  refine w_iload_n (pc := 6) hX dX3_highEnd_6 rfl rfl ?_
  obtain ⟨r2, hr2, hm⟩ := bnd hm
  refine w_callpi (pc := 7) hX [] (runS (rest := [.int r1, .ref (a_t 0)]) hX [] (ctX3_placeDirection G g1 r2 hr2) dX3_highEnd_7 1 gX3_highEnd_X3_placeDirection rfl hyX3_placeDirection.2 ⟨Nat.le_of_ble_eq_true rfl, Nat.le_of_ble_eq_true rfl⟩ rfl rfl (Nat.le_of_ble_eq_true rfl) ⟨Nat.le_of_ble_eq_true rfl, Nat.le_of_ble_eq_true rfl⟩ rfl (by decide +kernel)) rfl ⟨rfl, rfl⟩ ?_
  obtain ⟨r3, hr3, hm⟩ := bnd hm
  refine w_callpi (pc := 10) hX [0, 1, 2, 3, 4] (runV (rest := []) hX [0, 1, 2, 3, 4] (ctX3_beside G a_t v_t r1 r2 r3 hr3) dX3_highEnd_10 2 gX3_highEnd_X3_beside rfl hyX3_beside ⟨Nat.le_of_ble_eq_true rfl, Nat.le_of_ble_eq_true rfl⟩ 0 rfl rfl rfl rfl (Nat.le_of_ble_eq_true rfl) ⟨Nat.le_of_ble_eq_true rfl, Nat.le_of_ble_eq_true rfl⟩ rfl (by decide +kernel)) rfl ⟨rfl, rfl⟩ ?_
  obtain rfl := som hm
  exact w_iret (pc := 13) hX hR dX3_highEnd_13 ⟨rfl, rfl⟩

set_option maxHeartbeats 4000000 in
set_option maxRecDepth 100000 in
theorem ctX3_setPlace (G : gT) (a_t : Nat → Nat) (v_t : MZ) (g1 : Int32) (g2 : Int32) (o : nF) (hm : mX3_setPlace v_t g1 g2 = some o) : CT G yX3_setPlace wsX3_setPlace rmX3_setPlace [.ref (a_t 0), .int g1, .int g2] (wX3 G a_t v_t) (fun v w => v = none ∧ w = wX3 G a_t (v_t.1, v_t.2.1, v_t.2.2.1, o, v_t.2.2.2.2.1, v_t.2.2.2.2.2)) := by
  refine CT_of (cc := cX3_setPlace) (maxL := 3) (ret := none) 0 (by decide +kernel) rfl rfl (cat_ok rfl) (fun X hX hR hN => ?_)
  have hX : Ok G X cX3_setPlace RX3 wsX3_setPlace 3 rmX3_setPlace := hX
  unfold mX3_setPlace at hm
  refine w_aload_n (pc := 0) hX dX3_setPlace_0 rfl rfl ?_
  refine w_aload_n (pc := 1) hX dX3_setPlace_1 rfl rfl ?_
  refine w_iload_n (pc := 2) hX dX3_setPlace_2 rfl rfl ?_
  obtain ⟨r1, hr1, hm⟩ := bnd hm
  refine w_callpi (pc := 3) hX [0, 1, 2, 3, 4] (runV (rest := [.ref (a_t 0)]) hX [0, 1, 2, 3, 4] (ctX3_lowEnd G a_t v_t g1 r1 hr1) dX3_setPlace_3 1 gX3_setPlace_X3_lowEnd rfl hyX3_lowEnd ⟨Nat.le_of_ble_eq_true rfl, Nat.le_of_ble_eq_true rfl⟩ 0 rfl rfl rfl rfl (Nat.le_of_ble_eq_true rfl) ⟨Nat.le_of_ble_eq_true rfl, Nat.le_of_ble_eq_true rfl⟩ rfl (by decide +kernel)) rfl ⟨rfl, rfl⟩ ?_
  refine w_iload_n (pc := 6) hX dX3_setPlace_6 rfl rfl ?_
  obtain ⟨r2, hr2, hm⟩ := bnd hm
  refine w_callpi (pc := 7) hX [] (runS (rest := [.int r1, .ref (a_t 0)]) hX [] (ctX3_placeDirection G g1 r2 hr2) dX3_setPlace_7 1 gX3_setPlace_X3_placeDirection rfl hyX3_placeDirection.2 ⟨Nat.le_of_ble_eq_true rfl, Nat.le_of_ble_eq_true rfl⟩ rfl rfl (Nat.le_of_ble_eq_true rfl) ⟨Nat.le_of_ble_eq_true rfl, Nat.le_of_ble_eq_true rfl⟩ rfl (by decide +kernel)) rfl ⟨rfl, rfl⟩ ?_
  refine w_iload_n (pc := 10) hX dX3_setPlace_10 rfl rfl ?_
  obtain ⟨r3, hr3, hm⟩ := bnd hm
  refine w_calldv (pc := 11) (ws' := wX3 G a_t (v_t.1, v_t.2.1, v_t.2.2.1, r3, v_t.2.2.2.2.1, v_t.2.2.2.2.2)) (os := [some 0, some 1, some 2, some 3, some 4]) 5 hX [0, 1, 2, 3, 4] (runV (rest := []) hX [0, 1, 2, 3, 4] (ctX3_setPassage G a_t v_t r1 r2 g2 r3 hr3) dX3_setPlace_11 3 gX3_setPlace_X3_setPassage rfl hyX3_setPassage ⟨Nat.le_of_ble_eq_true rfl, Nat.le_of_ble_eq_true rfl⟩ 0 rfl rfl rfl rfl (Nat.le_of_ble_eq_true rfl) ⟨Nat.le_of_ble_eq_true rfl, Nat.le_of_ble_eq_true rfl⟩ rfl (by decide +kernel)) rfl rfl rfl (by decide +kernel) rfl ⟨rfl, rfl⟩ ?_
  obtain rfl := som hm
  exact w_vret (pc := 14) hX hR dX3_setPlace_14 ⟨rfl, rfl⟩

theorem lX3_entryCell_X3 : ∀ w ∈ wsX30, w ∈ wsX3_entryCell := in_at [5, 6, 7, 8, 9, 10] (by decide +kernel)
set_option maxHeartbeats 4000000 in
set_option maxRecDepth 100000 in
theorem ctX3_entryCell (G : gT) (a_t : Nat → Nat) (v_t : MZ) (o : Int32) (hm : mX3_entryCell v_t = some o) : CT G yX3_entryCell wsX3_entryCell rmX3_entryCell [.ref (a_t 0)] (wX3 G a_t v_t) (fun v w => v = some (.int o) ∧ w = wX3 G a_t v_t) := by
  refine CT_of (cc := cX3_entryCell) (maxL := 1) (ret := (some .int)) 0 (by decide +kernel) rfl rfl (cat_ok rfl) (fun X hX hR hN => ?_)
  have hX : Ok G X cX3_entryCell RX3 wsX3_entryCell 1 rmX3_entryCell := hX
  have hX3 : ∀ w ∈ wsX30, w ∈ wsX3_entryCell := lX3_entryCell_X3
  unfold mX3_entryCell at hm
  refine w_aload_n (pc := 0) hX dX3_entryCell_0 rfl rfl ?_
  refine gf_X3_doorCells (pc := 1) hX dX3_entryCell_1 hX3 (List.mem_of_getElem? (i := 1) rfl) 0 rfl rfl ?_
  refine w_iconst (pc := 4) hX dX3_entryCell_4 ic_0 ?_
  obtain ⟨r1, hr1, hm⟩ := bnd hm
  refine w_callpi (pc := 5) hX [3] (runSN (rest := []) hX [3] (ctX7_at G (a_t 3) 2 v_t.2.2.2.2.1 (0 : Int32) r1 hr1) dX3_entryCell_5 2 gX3_entryCell_X7_at_n53 rfl (List.mem_of_getElem? (i := 9) rfl) ⟨(List.mem_of_getElem? (i := 2) rfl), (List.mem_of_getElem? (i := 3) rfl)⟩ hyX7_at.2 ⟨Nat.le_of_ble_eq_true rfl, Nat.le_of_ble_eq_true rfl⟩ rfl rfl (Nat.le_of_ble_eq_true rfl) ⟨Nat.le_of_ble_eq_true rfl, Nat.le_of_ble_eq_true rfl⟩ rfl (by decide +kernel)) rfl ⟨rfl, rfl⟩ ?_
  obtain rfl := som hm
  exact w_iret (pc := 8) hX hR dX3_entryCell_8 ⟨rfl, rfl⟩

theorem lX3_exitCell_X3 : ∀ w ∈ wsX30, w ∈ wsX3_exitCell := in_at [5, 6, 7, 8, 9, 10] (by decide +kernel)
set_option maxHeartbeats 4000000 in
set_option maxRecDepth 100000 in
theorem ctX3_exitCell (G : gT) (a_t : Nat → Nat) (v_t : MZ) (o : Int32) (hm : mX3_exitCell v_t = some o) : CT G yX3_exitCell wsX3_exitCell rmX3_exitCell [.ref (a_t 0)] (wX3 G a_t v_t) (fun v w => v = some (.int o) ∧ w = wX3 G a_t v_t) := by
  refine CT_of (cc := cX3_exitCell) (maxL := 1) (ret := (some .int)) 0 (by decide +kernel) rfl rfl (cat_ok rfl) (fun X hX hR hN => ?_)
  have hX : Ok G X cX3_exitCell RX3 wsX3_exitCell 1 rmX3_exitCell := hX
  have hX3 : ∀ w ∈ wsX30, w ∈ wsX3_exitCell := lX3_exitCell_X3
  unfold mX3_exitCell at hm
  refine w_aload_n (pc := 0) hX dX3_exitCell_0 rfl rfl ?_
  refine gf_X3_doorCells (pc := 1) hX dX3_exitCell_1 hX3 (List.mem_of_getElem? (i := 1) rfl) 0 rfl rfl ?_
  refine w_iconst (pc := 4) hX dX3_exitCell_4 ic_1 ?_
  obtain ⟨r1, hr1, hm⟩ := bnd hm
  refine w_callpi (pc := 5) hX [3] (runSN (rest := []) hX [3] (ctX7_at G (a_t 3) 2 v_t.2.2.2.2.1 (1 : Int32) r1 hr1) dX3_exitCell_5 2 gX3_exitCell_X7_at_n53 rfl (List.mem_of_getElem? (i := 9) rfl) ⟨(List.mem_of_getElem? (i := 2) rfl), (List.mem_of_getElem? (i := 3) rfl)⟩ hyX7_at.2 ⟨Nat.le_of_ble_eq_true rfl, Nat.le_of_ble_eq_true rfl⟩ rfl rfl (Nat.le_of_ble_eq_true rfl) ⟨Nat.le_of_ble_eq_true rfl, Nat.le_of_ble_eq_true rfl⟩ rfl (by decide +kernel)) rfl ⟨rfl, rfl⟩ ?_
  obtain rfl := som hm
  exact w_iret (pc := 8) hX hR dX3_exitCell_8 ⟨rfl, rfl⟩

theorem lX3_toneSum_X3 : ∀ w ∈ wsX30, w ∈ wsX3_toneSum := in_at [12, 13, 14, 15, 16, 17] (by decide +kernel)
set_option maxHeartbeats 4000000 in
set_option maxRecDepth 100000 in
theorem ctX3_toneSum (G : gT) (F : Nat) (a_t : Nat → Nat) (v_t : MZ) (o : Int32) (hm : mX3_toneSum F v_t = some o) : CT G yX3_toneSum wsX3_toneSum rmX3_toneSum [.ref (a_t 0)] (wX3 G a_t v_t) (fun v w => v = some (.int o) ∧ w = wX3 G a_t v_t) := by
  refine CT_of (cc := cX3_toneSum) (maxL := 3) (ret := (some .int)) 2 (by decide +kernel) rfl rfl (cat_ok rfl) (fun X hX hR hN => ?_)
  have hX : Ok G X cX3_toneSum RX3 wsX3_toneSum 3 rmX3_toneSum := hX
  have hX3 : ∀ w ∈ wsX30, w ∈ wsX3_toneSum := lX3_toneSum_X3
  unfold mX3_toneSum at hm
  refine w_iconst (pc := 0) hX dX3_toneSum_0 ic_0 ?_
  refine w_istore_n (pc := 1) hX dX3_toneSum_1 rfl (Nat.le_of_ble_eq_true rfl) ?_
  refine w_iconst (pc := 2) hX dX3_toneSum_2 ic_0 ?_
  refine w_istore_n (pc := 3) hX dX3_toneSum_3 rfl (Nat.le_of_ble_eq_true rfl) ?_
  refine w_lvs [true, true, true] ?_
  refine lpr_ind (T := fun x1 : (Int32 × Int32) => WW G X 0 0 (wX3 G a_t v_t) [some (.ref (a_t 0)), some (.int x1.1), some (.int x1.2)] 4 []) (fun self2 hself2 x1 hm => ?_) F ((0 : Int32), (0 : Int32)) hm
  unfold mX3_toneSum_L4 at hm
  refine w_iload_n (pc := 4) hX dX3_toneSum_4 rfl rfl ?_
  refine w_aload_n (pc := 5) hX dX3_toneSum_5 rfl rfl ?_
  obtain ⟨r3, hr3, hm⟩ := bnd hm
  refine w_callpi (pc := 6) hX [0, 1, 2, 3, 4] (runV (rest := [.int x1.2]) hX [0, 1, 2, 3, 4] (ctX3_cells G a_t v_t r3 hr3) dX3_toneSum_6 0 gX3_toneSum_X3_cells rfl hyX3_cells ⟨Nat.le_of_ble_eq_true rfl, Nat.le_of_ble_eq_true rfl⟩ 0 rfl rfl rfl rfl (Nat.le_of_ble_eq_true rfl) ⟨Nat.le_of_ble_eq_true rfl, Nat.le_of_ble_eq_true rfl⟩ rfl (by decide +kernel)) rfl ⟨rfl, rfl⟩ ?_
  refine w_icmp_ge (pc := 9) (tgt := 29) hX dX3_toneSum_9 (by decide) hm (fun hm => ?_) (fun hm => ?_)
  ·
    refine w_iload_n (pc := 29) hX dX3_toneSum_29 rfl rfl ?_
    obtain rfl := som hm
    exact w_iret (pc := 30) hX hR dX3_toneSum_30 ⟨rfl, rfl⟩
  ·
    refine w_iload_n (pc := 12) hX dX3_toneSum_12 rfl rfl ?_
    refine w_aload_n (pc := 13) hX dX3_toneSum_13 rfl rfl ?_
    refine gf_X3_tones (pc := 14) hX dX3_toneSum_14 hX3 (List.mem_of_getElem? (i := 1) rfl) 0 rfl rfl ?_
    refine w_iload_n (pc := 17) hX dX3_toneSum_17 rfl rfl ?_
    obtain ⟨r4, hr4, hm⟩ := bnd hm
    refine w_callpi (pc := 18) hX [1] (runSN (rest := [.int x1.1]) hX [1] (ctX7_at G (a_t 1) 36 v_t.2.2.1 x1.2 r4 hr4) dX3_toneSum_18 2 gX3_toneSum_X7_at_n53 rfl (List.mem_of_getElem? (i := 9) rfl) ⟨(List.mem_of_getElem? (i := 9) rfl), (List.mem_of_getElem? (i := 10) rfl)⟩ hyX7_at.2 ⟨Nat.le_of_ble_eq_true rfl, Nat.le_of_ble_eq_true rfl⟩ rfl rfl (Nat.le_of_ble_eq_true rfl) ⟨Nat.le_of_ble_eq_true rfl, Nat.le_of_ble_eq_true rfl⟩ rfl (by decide +kernel)) rfl ⟨rfl, rfl⟩ ?_
    refine w_iadd (pc := 21) hX dX3_toneSum_21 ?_
    refine w_istore_n (pc := 22) hX dX3_toneSum_22 rfl (Nat.le_of_ble_eq_true rfl) ?_
    refine w_iinc (pc := 23) hX dX3_toneSum_23 rfl (Nat.le_of_ble_eq_true rfl) ic_1 ?_
    refine w_goto (pc := 26) (tgt := 4) hX dX3_toneSum_26 (by decide) ?_
    exact w_lvs [true, true, true] (hself2 (x1.1 + r4, x1.2 + (1 : Int32)) hm)

theorem lX3_deadEnds_X3 : ∀ w ∈ wsX30, w ∈ wsX3_deadEnds := in_at [19, 20, 21, 22, 23, 24] (by decide +kernel)
set_option maxHeartbeats 4000000 in
set_option maxRecDepth 100000 in
theorem ctX3_deadEnds (G : gT) (F : Nat) (a_t : Nat → Nat) (v_t : MZ) (o : Int32) (hm : mX3_deadEnds F v_t = some o) : CT G yX3_deadEnds wsX3_deadEnds rmX3_deadEnds [.ref (a_t 0)] (wX3 G a_t v_t) (fun v w => v = some (.int o) ∧ w = wX3 G a_t v_t) := by
  refine CT_of (cc := cX3_deadEnds) (maxL := 3) (ret := (some .int)) 2 (by decide +kernel) rfl rfl (cat_ok rfl) (fun X hX hR hN => ?_)
  have hX : Ok G X cX3_deadEnds RX3 wsX3_deadEnds 3 rmX3_deadEnds := hX
  have hX3 : ∀ w ∈ wsX30, w ∈ wsX3_deadEnds := lX3_deadEnds_X3
  unfold mX3_deadEnds at hm
  refine w_iconst (pc := 0) hX dX3_deadEnds_0 ic_0 ?_
  refine w_istore_n (pc := 1) hX dX3_deadEnds_1 rfl (Nat.le_of_ble_eq_true rfl) ?_
  refine w_iconst (pc := 2) hX dX3_deadEnds_2 ic_0 ?_
  refine w_istore_n (pc := 3) hX dX3_deadEnds_3 rfl (Nat.le_of_ble_eq_true rfl) ?_
  refine w_lvs [true, true, true] ?_
  refine lpr_ind (T := fun x1 : (Int32 × Int32) => WW G X 0 0 (wX3 G a_t v_t) [some (.ref (a_t 0)), some (.int x1.1), some (.int x1.2)] 4 []) (fun self2 hself2 x1 hm => ?_) F ((0 : Int32), (0 : Int32)) hm
  unfold mX3_deadEnds_L4 at hm
  refine w_iload_n (pc := 4) hX dX3_deadEnds_4 rfl rfl ?_
  refine w_aload_n (pc := 5) hX dX3_deadEnds_5 rfl rfl ?_
  obtain ⟨r3, hr3, hm⟩ := bnd hm
  refine w_callpi (pc := 6) hX [0, 1, 2, 3, 4] (runV (rest := [.int x1.2]) hX [0, 1, 2, 3, 4] (ctX3_cells G a_t v_t r3 hr3) dX3_deadEnds_6 0 gX3_deadEnds_X3_cells rfl hyX3_cells ⟨Nat.le_of_ble_eq_true rfl, Nat.le_of_ble_eq_true rfl⟩ 0 rfl rfl rfl rfl (Nat.le_of_ble_eq_true rfl) ⟨Nat.le_of_ble_eq_true rfl, Nat.le_of_ble_eq_true rfl⟩ rfl (by decide +kernel)) rfl ⟨rfl, rfl⟩ ?_
  refine w_icmp_ge (pc := 9) (tgt := 36) hX dX3_deadEnds_9 (by decide) hm (fun hm => ?_) (fun hm => ?_)
  ·
    refine w_iload_n (pc := 36) hX dX3_deadEnds_36 rfl rfl ?_
    obtain rfl := som hm
    exact w_iret (pc := 37) hX hR dX3_deadEnds_37 ⟨rfl, rfl⟩
  ·
    refine w_aload_n (pc := 12) hX dX3_deadEnds_12 rfl rfl ?_
    refine gf_X3_passages (pc := 13) hX dX3_deadEnds_13 hX3 (List.mem_of_getElem? (i := 1) rfl) 0 rfl rfl ?_
    refine w_iload_n (pc := 16) hX dX3_deadEnds_16 rfl rfl ?_
    obtain ⟨r4, hr4, hm⟩ := bnd hm
    refine w_callpi (pc := 17) hX [2] (runSN (rest := []) hX [2] (ctX7_at G (a_t 2) 36 v_t.2.2.2.1 x1.2 r4 hr4) dX3_deadEnds_17 2 gX3_deadEnds_X7_at_n53 rfl (List.mem_of_getElem? (i := 9) rfl) ⟨(List.mem_of_getElem? (i := 9) rfl), (List.mem_of_getElem? (i := 10) rfl)⟩ hyX7_at.2 ⟨Nat.le_of_ble_eq_true rfl, Nat.le_of_ble_eq_true rfl⟩ rfl rfl (Nat.le_of_ble_eq_true rfl) ⟨Nat.le_of_ble_eq_true rfl, Nat.le_of_ble_eq_true rfl⟩ rfl (by decide +kernel)) rfl ⟨rfl, rfl⟩ ?_
    obtain ⟨r5, hr5, hm⟩ := bnd hm
    refine w_callpi (pc := 20) hX [] (runS (rest := []) hX [] (ctJ6_bitCount_0f7a4 G r4 r5 hr5) dX3_deadEnds_20 1 gX3_deadEnds_J6_bitCount_0f7a4 rfl hyJ6_bitCount_0f7a4.2 ⟨Nat.le_of_ble_eq_true rfl, Nat.le_of_ble_eq_true rfl⟩ rfl rfl (Nat.le_of_ble_eq_true rfl) ⟨Nat.le_of_ble_eq_true rfl, Nat.le_of_ble_eq_true rfl⟩ rfl (by decide +kernel)) rfl ⟨rfl, rfl⟩ ?_
    refine w_iconst (pc := 23) hX dX3_deadEnds_23 ic_1 ?_
    refine w_jn (T := fun x6 : Int32 => WW G X 0 0 (wX3 G a_t v_t) [some (.ref (a_t 0)), some (.int x6), some (.int x1.2)] 30 []) hm (fun x6 hm => ?_) (fun j7 hj7 hm => ?_)
    ·
      refine w_iinc (pc := 30) hX dX3_deadEnds_30 rfl (Nat.le_of_ble_eq_true rfl) ic_1 ?_
      refine w_goto (pc := 33) (tgt := 4) hX dX3_deadEnds_33 (by decide) ?_
      exact w_lvs [true, true, true] (hself2 (x6, x1.2 + (1 : Int32)) hm)
    ·
      refine w_icmp_ne (pc := 24) (tgt := 30) hX dX3_deadEnds_24 (by decide) hm (fun hm => ?_) (fun hm => ?_)
      ·
        exact w_lvs [true, true, true] (hj7 x1.1 hm)
      ·
        refine w_iinc (pc := 27) hX dX3_deadEnds_27 rfl (Nat.le_of_ble_eq_true rfl) ic_1 ?_
        exact w_lvs [true, true, true] (hj7 (x1.1 + (1 : Int32)) hm)

set_option maxHeartbeats 4000000 in
set_option maxRecDepth 100000 in
theorem ctX7_choose (G : gT) (g0 : Int32) (g1 : Int32) (g2 : Int32) (g3 : Int32) (o : Int32) (hm : mX7_choose g0 g1 g2 g3 = some o) : CT G yX7_choose wsX7_choose rmX7_choose [.int g0, .int g1, .int g2, .int g3] ([]) (fun v w => v = some (.int o) ∧ w = []) := by
  refine CT_of (cc := cX7_choose) (maxL := 4) (ret := (some .int)) 0 (by decide +kernel) rfl rfl (cat_ok rfl) (fun X hX hR hN => ?_)
  have hX : Ok G X cX7_choose RX7 wsX7_choose 4 rmX7_choose := hX
  unfold mX7_choose at hm
  refine w_iload_n (pc := 0) hX dX7_choose_0 rfl rfl ?_
  refine w_if_ne (pc := 1) (tgt := 6) hX dX7_choose_1 (by decide) hm (fun hm => ?_) (fun hm => ?_)
  ·
    refine w_iload_n (pc := 6) hX dX7_choose_6 rfl rfl ?_
    refine w_iconst (pc := 7) hX dX7_choose_7 ic_1 ?_
    refine w_jn (T := fun x1 : Int32 => WW G X 0 0 ([]) [none, none, none, none] 16 [.int x1]) hm (fun x1 hm => ?_) (fun j2 hj2 hm => ?_)
    ·
      obtain rfl := som hm
      exact w_iret (pc := 16) hX hR dX7_choose_16 ⟨rfl, rfl⟩
    ·
      refine w_icmp_ne (pc := 8) (tgt := 15) hX dX7_choose_8 (by decide) hm (fun hm => ?_) (fun hm => ?_)
      ·
        refine w_iload_n (pc := 15) hX dX7_choose_15 rfl rfl ?_
        exact w_lvs [false, false, false, false] (hj2 g3 hm)
      ·
        refine w_iload_n (pc := 11) hX dX7_choose_11 rfl rfl ?_
        refine w_goto (pc := 12) (tgt := 16) hX dX7_choose_12 (by decide) ?_
        exact w_lvs [false, false, false, false] (hj2 g2 hm)
  ·
    refine w_iload_n (pc := 4) hX dX7_choose_4 rfl rfl ?_
    obtain rfl := som hm
    exact w_iret (pc := 5) hX hR dX7_choose_5 ⟨rfl, rfl⟩
