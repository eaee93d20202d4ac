/-! CONSTRUCTOR of PortraitMazes, printed by wip/whole/ctor.py -/
abbrev rmX7_init : Room := { frames := 4, cells := 56, slots := 1167, locals := 86 }
theorem hyX7_init : yX7_init.cls = RX7 ∧ yX7_init.cls ≠ "java/lang/invoke/MethodHandle" ∧ yX7_init.cls ≠ "java/lang/invoke/VarHandle" ∧ (parseMethodDescriptor yX7_init.desc).map (fun d => d.parameters.length) = some 0 := ⟨rfl, by decide +kernel, by decide +kernel, by decide +kernel⟩
theorem lX7_init_X7 : ∀ w ∈ wsX70, w ∈ wsX7_init := in_at [100, 101, 102, 103, 104, 105, 106, 107, 108, 109, 110] (by decide +kernel)
theorem lX7_init_X3 : ∀ w ∈ wsX30, w ∈ wsX7_init := in_at [94, 95, 96, 97, 98, 99] (by decide +kernel)
theorem lX7_init_X2 : ∀ w ∈ wsX20, w ∈ wsX7_init := in_at [111, 112] (by decide +kernel)
theorem lX7_init_X4 : ∀ w ∈ wsX40, w ∈ wsX7_init := in_at [113, 114, 115, 116, 117, 118, 119] (by decide +kernel)
theorem lX7_init_X6 : ∀ w ∈ wsX60, w ∈ wsX7_init := in_at [120, 121, 122, 123, 124] (by decide +kernel)
theorem lX7_init_X5 : ∀ w ∈ wsX50, w ∈ wsX7_init := in_at [125, 126, 127, 128] (by decide +kernel)
theorem lX7_init_X0 : ∀ w ∈ wsX00, w ∈ wsX7_init := in_at [129] (by decide +kernel)
theorem lX7_init_X1 : ∀ w ∈ wsX10, w ∈ wsX7_init := in_at [130, 131, 132, 133, 134, 135] (by decide +kernel)
set_option maxHeartbeats 4000000 in
set_option maxRecDepth 100000 in
theorem ctX7_init (G : gT) (F : Nat) (q : Nat) (o : MZ) (hm : mX3_clear F (0, 0, (fun _ => 0), (fun _ => 0), (fun _ => 0), (fun _ => 0)) (4 : Int32) (4 : Int32) = some o) : CT G yX7_init wsX7_init rmX7_init [.ref q] [(q, .inr (7, [.null, .null, .null, .null, .null, .null, .null, .null, .null, .null, .int 0]))] (fun v w => v = none ∧ ∃ a : Nat → Nat → Nat, a 0 0 = q ∧ w = wX7 G a 0 ++ wX3 G (a 1) o ++ wX3 G (a 2) o ++ wX2 G a (0, 0, fun _ => o) ++ wX4 G (a 4) (0, 0, 0, (fun _ => 0), 0, 0, 0) ++ wX6 G (a 5) (0, (fun _ => 0), (fun _ => 0), (fun _ => 0), (fun _ => 0)) ++ wX6 G (a 6) (0, (fun _ => 0), (fun _ => 0), (fun _ => 0), (fun _ => 0)) ++ wX6 G (a 7) (0, (fun _ => 0), (fun _ => 0), (fun _ => 0), (fun _ => 0)) ++ wX5 G (a 8) (0, 0, (fun _ => 0), (fun _ => 0)) ++ wX0 G (a 9) (fun _ => 0) ++ wX1 G (a 10) (0, 0, 0, 0, 0, (fun _ => 0))) := by
  refine CT_of (cc := cX7_init) (maxL := 1) (ret := none) 0 (by decide +kernel) rfl rfl (cat_ok rfl) (fun X hX hR hN => ?_)
  have hX : Ok G X cX7_init RX7 wsX7_init 1 rmX7_init := hX
  have hX7 : ∀ w ∈ wsX70, w ∈ wsX7_init := lX7_init_X7
  have hX3 : ∀ w ∈ wsX30, w ∈ wsX7_init := lX7_init_X3
  have hX2 : ∀ w ∈ wsX20, w ∈ wsX7_init := lX7_init_X2
  have hX4 : ∀ w ∈ wsX40, w ∈ wsX7_init := lX7_init_X4
  have hX6 : ∀ w ∈ wsX60, w ∈ wsX7_init := lX7_init_X6
  have hX5 : ∀ w ∈ wsX50, w ∈ wsX7_init := lX7_init_X5
  have hX0 : ∀ w ∈ wsX00, w ∈ wsX7_init := lX7_init_X0
  have hX1 : ∀ w ∈ wsX10, w ∈ wsX7_init := lX7_init_X1
  refine w_aload_n (pc := 0) hX dX7_init_0 rfl rfl ?_
  refine w_objInit (pc := 1) hX dX7_init_1 (List.mem_of_getElem? (i := 1) rfl) (List.mem_of_getElem? (i := 2) rfl) (List.mem_of_getElem? (i := 3) rfl) (Nat.le_of_ble_eq_true rfl) (Nat.le_of_ble_eq_true rfl) ?_
  refine w_aload_n (pc := 4) hX dX7_init_4 rfl rfl ?_
  refine w_new (pc := 5) (fs := [.int 0, .int 0, .null, .null, .null, .null]) (C := RX3) (T := TX3) (N := 6) (ci := 3) hX dX7_init_5 hX3 tyX3 tyX3_ok (List.mem_of_getElem? (i := 4) rfl) (List.mem_of_getElem? (i := 5) rfl) (List.mem_of_getElem? (i := 6) rfl) rfl (fun j hj => by rcases (show j = 0 ∨ j = 1 ∨ j = 2 ∨ j = 3 ∨ j = 4 ∨ j = 5 by omega) with rfl | rfl | rfl | rfl | rfl | rfl <;> rfl) ⟨Nat.le_of_ble_eq_true rfl, Nat.le_of_ble_eq_true rfl⟩ (fun z0 => ?_)
  refine w_dup (pc := 8) hX dX7_init_8 rfl ?_
  refine w_callG (pc := 9) hX (runI (rest := [.ref z0, .ref q]) hX [1] (ctX3_init G F z0 o hm) dX7_init_9 0 gX7_init_X3_init rfl ⟨(List.mem_of_getElem? (i := 6) rfl), (List.mem_of_getElem? (i := 36) rfl), (List.mem_of_getElem? (i := 37) rfl)⟩ rfl hyX3_init.2 ⟨Nat.le_of_ble_eq_true rfl, Nat.le_of_ble_eq_true rfl⟩ rfl rfl (Nat.le_of_ble_eq_true rfl) ⟨Nat.le_of_ble_eq_true rfl, Nat.le_of_ble_eq_true rfl⟩ rfl rfl) [1] rfl (fun v w1 hp => ?_)
  obtain ⟨rfl, a0, rfl, rfl⟩ := hp
  refine ⟨(wX3 G a0 o).take 1, (wX3 G a0 o).drop 1, rfl, rfl, ?_⟩
  refine w_ws (ws' := [(q, .inr (7, [.null, .null, .null, .null, .null, .null, .null, .null, .null, .null, .int 0]))] ++ wX3 G a0 o) rfl ?_
  refine pF_X7_maze hN (pc := 12) hX dX7_init_12 hX7 (List.mem_of_getElem? (i := 7) rfl) 0 rfl rfl ?_
  refine w_aload_n (pc := 15) hX dX7_init_15 rfl rfl ?_
  refine w_new (pc := 16) (fs := [.int 0, .int 0, .null, .null, .null, .null]) (C := RX3) (T := TX3) (N := 6) (ci := 3) hX dX7_init_16 hX3 tyX3 tyX3_ok (List.mem_of_getElem? (i := 4) rfl) (List.mem_of_getElem? (i := 5) rfl) (List.mem_of_getElem? (i := 6) rfl) rfl (fun j hj => by rcases (show j = 0 ∨ j = 1 ∨ j = 2 ∨ j = 3 ∨ j = 4 ∨ j = 5 by omega) with rfl | rfl | rfl | rfl | rfl | rfl <;> rfl) ⟨Nat.le_of_ble_eq_true rfl, Nat.le_of_ble_eq_true rfl⟩ (fun z1 => ?_)
  refine w_dup (pc := 19) hX dX7_init_19 rfl ?_
  refine w_callG (pc := 20) hX (runI (rest := [.ref z1, .ref q]) hX [6] (ctX3_init G F z1 o hm) dX7_init_20 0 gX7_init_X3_init rfl ⟨(List.mem_of_getElem? (i := 6) rfl), (List.mem_of_getElem? (i := 36) rfl), (List.mem_of_getElem? (i := 37) rfl)⟩ rfl hyX3_init.2 ⟨Nat.le_of_ble_eq_true rfl, Nat.le_of_ble_eq_true rfl⟩ rfl rfl (Nat.le_of_ble_eq_true rfl) ⟨Nat.le_of_ble_eq_true rfl, Nat.le_of_ble_eq_true rfl⟩ rfl rfl) [6] rfl (fun v w1 hp => ?_)
  obtain ⟨rfl, a1, rfl, rfl⟩ := hp
  refine ⟨(wX3 G a1 o).take 1, (wX3 G a1 o).drop 1, rfl, rfl, ?_⟩
  refine w_ws (ws' := [(q, .inr (7, [.ref (a0 0), .null, .null, .null, .null, .null, .null, .null, .null, .null, .int 0]))] ++ wX3 G a0 o ++ wX3 G a1 o) rfl ?_
  refine pF_X7_snapshot hN (pc := 23) hX dX7_init_23 hX7 (List.mem_of_getElem? (i := 8) rfl) 0 rfl rfl ?_
  refine w_aload_n (pc := 26) hX dX7_init_26 rfl rfl ?_
  refine w_new (pc := 27) (fs := [.int 0, .null]) (C := RX2) (T := TX2) (N := 2) (ci := 2) hX dX7_init_27 hX2 tyX2 tyX2_ok (List.mem_of_getElem? (i := 9) rfl) (List.mem_of_getElem? (i := 10) rfl) (List.mem_of_getElem? (i := 11) rfl) rfl (fun j hj => by rcases (show j = 0 ∨ j = 1 by omega) with rfl | rfl <;> rfl) ⟨Nat.le_of_ble_eq_true rfl, Nat.le_of_ble_eq_true rfl⟩ (fun z2 => ?_)
  refine w_dup (pc := 30) hX dX7_init_30 rfl ?_
  refine w_callG (pc := 31) hX (runI (rest := [.ref z2, .ref q]) hX [11] (ctX2_init G F z2 o hm) dX7_init_31 0 gX7_init_X2_init rfl ⟨(List.mem_of_getElem? (i := 11) rfl), (List.mem_of_getElem? (i := 62) rfl), (List.mem_of_getElem? (i := 63) rfl)⟩ rfl hyX2_init.2 ⟨Nat.le_of_ble_eq_true rfl, Nat.le_of_ble_eq_true rfl⟩ rfl rfl (Nat.le_of_ble_eq_true rfl) ⟨Nat.le_of_ble_eq_true rfl, Nat.le_of_ble_eq_true rfl⟩ rfl rfl) [11] rfl (fun v w1 hp => ?_)
  obtain ⟨rfl, a2, rfl, rfl⟩ := hp
  refine ⟨(wX2 G a2 (0, 0, fun _ => o)).take 1, (wX2 G a2 (0, 0, fun _ => o)).drop 1, rfl, rfl, ?_⟩
  refine w_ws (ws' := [(q, .inr (7, [.ref (a0 0), .ref (a1 0), .null, .null, .null, .null, .null, .null, .null, .null, .int 0]))] ++ wX3 G a0 o ++ wX3 G a1 o ++ wX2 G a2 (0, 0, fun _ => o)) rfl ?_
  refine pF_X7_history hN (pc := 34) hX dX7_init_34 hX7 (List.mem_of_getElem? (i := 12) rfl) 0 rfl rfl ?_
  refine w_aload_n (pc := 37) hX dX7_init_37 rfl rfl ?_
  refine w_new (pc := 38) (fs := [.int 0, .int 0, .int 0, .null, .int 0, .int 0, .int 0]) (C := RX4) (T := TX4) (N := 7) (ci := 4) hX dX7_init_38 hX4 tyX4 tyX4_ok (List.mem_of_getElem? (i := 13) rfl) (List.mem_of_getElem? (i := 14) rfl) (List.mem_of_getElem? (i := 15) rfl) rfl (fun j hj => by rcases (show j = 0 ∨ j = 1 ∨ j = 2 ∨ j = 3 ∨ j = 4 ∨ j = 5 ∨ j = 6 by omega) with rfl | rfl | rfl | rfl | rfl | rfl | rfl <;> rfl) ⟨Nat.le_of_ble_eq_true rfl, Nat.le_of_ble_eq_true rfl⟩ (fun z3 => ?_)
  refine w_dup (pc := 41) hX dX7_init_41 rfl ?_
  refine w_callG (pc := 42) hX (runIN (rest := [.ref z3, .ref q]) hX [33] (ctX4_init G z3) dX7_init_42 0 gX7_init_X4_init_n28 rfl (List.mem_of_getElem? (i := 0) rfl) ⟨(List.mem_of_getElem? (i := 15) rfl), (List.mem_of_getElem? (i := 70) rfl)⟩ rfl hyX4_init.2 ⟨Nat.le_of_ble_eq_true rfl, Nat.le_of_ble_eq_true rfl⟩ rfl rfl (Nat.le_of_ble_eq_true rfl) ⟨Nat.le_of_ble_eq_true rfl, Nat.le_of_ble_eq_true rfl⟩ rfl rfl) [33] rfl (fun v w1 hp => ?_)
  obtain ⟨rfl, a3, rfl, rfl⟩ := hp
  refine ⟨(wX4 G a3 (0, 0, 0, (fun _ => 0), 0, 0, 0)).take 1, (wX4 G a3 (0, 0, 0, (fun _ => 0), 0, 0, 0)).drop 1, rfl, rfl, ?_⟩
  refine w_ws (ws' := [(q, .inr (7, [.ref (a0 0), .ref (a1 0), .ref (a2 3 0), .null, .null, .null, .null, .null, .null, .null, .int 0]))] ++ wX3 G a0 o ++ wX3 G a1 o ++ wX2 G a2 (0, 0, fun _ => o) ++ wX4 G a3 (0, 0, 0, (fun _ => 0), 0, 0, 0)) rfl ?_
  refine pF_X7_text hN (pc := 45) hX dX7_init_45 hX7 (List.mem_of_getElem? (i := 16) rfl) 0 rfl rfl ?_
  refine w_aload_n (pc := 48) hX dX7_init_48 rfl rfl ?_
  refine w_new (pc := 49) (fs := [.int 0, .null, .null, .null, .null]) (C := RX6) (T := TX6) (N := 5) (ci := 6) hX dX7_init_49 hX6 tyX6 tyX6_ok (List.mem_of_getElem? (i := 17) rfl) (List.mem_of_getElem? (i := 18) rfl) (List.mem_of_getElem? (i := 19) rfl) rfl (fun j hj => by rcases (show j = 0 ∨ j = 1 ∨ j = 2 ∨ j = 3 ∨ j = 4 by omega) with rfl | rfl | rfl | rfl | rfl <;> rfl) ⟨Nat.le_of_ble_eq_true rfl, Nat.le_of_ble_eq_true rfl⟩ (fun z4 => ?_)
  refine w_dup (pc := 52) hX dX7_init_52 rfl ?_
  refine w_callG (pc := 53) hX (runIN (rest := [.ref z4, .ref q]) hX [35] (ctX6_init G z4) dX7_init_53 0 gX7_init_X6_init_n35 rfl (List.mem_of_getElem? (i := 1) rfl) ⟨(List.mem_of_getElem? (i := 19) rfl), (List.mem_of_getElem? (i := 74) rfl)⟩ rfl hyX6_init.2 ⟨Nat.le_of_ble_eq_true rfl, Nat.le_of_ble_eq_true rfl⟩ rfl rfl (Nat.le_of_ble_eq_true rfl) ⟨Nat.le_of_ble_eq_true rfl, Nat.le_of_ble_eq_true rfl⟩ rfl rfl) [35] rfl (fun v w1 hp => ?_)
  obtain ⟨rfl, a4, rfl, rfl⟩ := hp
  refine ⟨(wX6 G a4 (0, (fun _ => 0), (fun _ => 0), (fun _ => 0), (fun _ => 0))).take 1, (wX6 G a4 (0, (fun _ => 0), (fun _ => 0), (fun _ => 0), (fun _ => 0))).drop 1, rfl, rfl, ?_⟩
  refine w_ws (ws' := [(q, .inr (7, [.ref (a0 0), .ref (a1 0), .ref (a2 3 0), .ref (a3 0), .null, .null, .null, .null, .null, .null, .int 0]))] ++ wX3 G a0 o ++ wX3 G a1 o ++ wX2 G a2 (0, 0, fun _ => o) ++ wX4 G a3 (0, 0, 0, (fun _ => 0), 0, 0, 0) ++ wX6 G a4 (0, (fun _ => 0), (fun _ => 0), (fun _ => 0), (fun _ => 0))) rfl ?_
  refine pF_X7_ways hN (pc := 56) hX dX7_init_56 hX7 (List.mem_of_getElem? (i := 20) rfl) 0 rfl rfl ?_
  refine w_aload_n (pc := 59) hX dX7_init_59 rfl rfl ?_
  refine w_new (pc := 60) (fs := [.int 0, .null, .null, .null, .null]) (C := RX6) (T := TX6) (N := 5) (ci := 6) hX dX7_init_60 hX6 tyX6 tyX6_ok (List.mem_of_getElem? (i := 17) rfl) (List.mem_of_getElem? (i := 18) rfl) (List.mem_of_getElem? (i := 19) rfl) rfl (fun j hj => by rcases (show j = 0 ∨ j = 1 ∨ j = 2 ∨ j = 3 ∨ j = 4 by omega) with rfl | rfl | rfl | rfl | rfl <;> rfl) ⟨Nat.le_of_ble_eq_true rfl, Nat.le_of_ble_eq_true rfl⟩ (fun z5 => ?_)
  refine w_dup (pc := 63) hX dX7_init_63 rfl ?_
  refine w_callG (pc := 64) hX (runIN (rest := [.ref z5, .ref q]) hX [40] (ctX6_init G z5) dX7_init_64 0 gX7_init_X6_init_n35 rfl (List.mem_of_getElem? (i := 1) rfl) ⟨(List.mem_of_getElem? (i := 19) rfl), (List.mem_of_getElem? (i := 74) rfl)⟩ rfl hyX6_init.2 ⟨Nat.le_of_ble_eq_true rfl, Nat.le_of_ble_eq_true rfl⟩ rfl rfl (Nat.le_of_ble_eq_true rfl) ⟨Nat.le_of_ble_eq_true rfl, Nat.le_of_ble_eq_true rfl⟩ rfl rfl) [40] rfl (fun v w1 hp => ?_)
  obtain ⟨rfl, a5, rfl, rfl⟩ := hp
  refine ⟨(wX6 G a5 (0, (fun _ => 0), (fun _ => 0), (fun _ => 0), (fun _ => 0))).take 1, (wX6 G a5 (0, (fun _ => 0), (fun _ => 0), (fun _ => 0), (fun _ => 0))).drop 1, rfl, rfl, ?_⟩
  refine w_ws (ws' := [(q, .inr (7, [.ref (a0 0), .ref (a1 0), .ref (a2 3 0), .ref (a3 0), .ref (a4 0), .null, .null, .null, .null, .null, .int 0]))] ++ wX3 G a0 o ++ wX3 G a1 o ++ wX2 G a2 (0, 0, fun _ => o) ++ wX4 G a3 (0, 0, 0, (fun _ => 0), 0, 0, 0) ++ wX6 G a4 (0, (fun _ => 0), (fun _ => 0), (fun _ => 0), (fun _ => 0)) ++ wX6 G a5 (0, (fun _ => 0), (fun _ => 0), (fun _ => 0), (fun _ => 0))) rfl ?_
  refine pF_X7_fromEntry hN (pc := 67) hX dX7_init_67 hX7 (List.mem_of_getElem? (i := 21) rfl) 0 rfl rfl ?_
  refine w_aload_n (pc := 70) hX dX7_init_70 rfl rfl ?_
  refine w_new (pc := 71) (fs := [.int 0, .null, .null, .null, .null]) (C := RX6) (T := TX6) (N := 5) (ci := 6) hX dX7_init_71 hX6 tyX6 tyX6_ok (List.mem_of_getElem? (i := 17) rfl) (List.mem_of_getElem? (i := 18) rfl) (List.mem_of_getElem? (i := 19) rfl) rfl (fun j hj => by rcases (show j = 0 ∨ j = 1 ∨ j = 2 ∨ j = 3 ∨ j = 4 by omega) with rfl | rfl | rfl | rfl | rfl <;> rfl) ⟨Nat.le_of_ble_eq_true rfl, Nat.le_of_ble_eq_true rfl⟩ (fun z6 => ?_)
  refine w_dup (pc := 74) hX dX7_init_74 rfl ?_
  refine w_callG (pc := 75) hX (runIN (rest := [.ref z6, .ref q]) hX [45] (ctX6_init G z6) dX7_init_75 0 gX7_init_X6_init_n35 rfl (List.mem_of_getElem? (i := 1) rfl) ⟨(List.mem_of_getElem? (i := 19) rfl), (List.mem_of_getElem? (i := 74) rfl)⟩ rfl hyX6_init.2 ⟨Nat.le_of_ble_eq_true rfl, Nat.le_of_ble_eq_true rfl⟩ rfl rfl (Nat.le_of_ble_eq_true rfl) ⟨Nat.le_of_ble_eq_true rfl, Nat.le_of_ble_eq_true rfl⟩ rfl rfl) [45] rfl (fun v w1 hp => ?_)
  obtain ⟨rfl, a6, rfl, rfl⟩ := hp
  refine ⟨(wX6 G a6 (0, (fun _ => 0), (fun _ => 0), (fun _ => 0), (fun _ => 0))).take 1, (wX6 G a6 (0, (fun _ => 0), (fun _ => 0), (fun _ => 0), (fun _ => 0))).drop 1, rfl, rfl, ?_⟩
  refine w_ws (ws' := [(q, .inr (7, [.ref (a0 0), .ref (a1 0), .ref (a2 3 0), .ref (a3 0), .ref (a4 0), .ref (a5 0), .null, .null, .null, .null, .int 0]))] ++ wX3 G a0 o ++ wX3 G a1 o ++ wX2 G a2 (0, 0, fun _ => o) ++ wX4 G a3 (0, 0, 0, (fun _ => 0), 0, 0, 0) ++ wX6 G a4 (0, (fun _ => 0), (fun _ => 0), (fun _ => 0), (fun _ => 0)) ++ wX6 G a5 (0, (fun _ => 0), (fun _ => 0), (fun _ => 0), (fun _ => 0)) ++ wX6 G a6 (0, (fun _ => 0), (fun _ => 0), (fun _ => 0), (fun _ => 0))) rfl ?_
  refine pF_X7_fromExit hN (pc := 78) hX dX7_init_78 hX7 (List.mem_of_getElem? (i := 22) rfl) 0 rfl rfl ?_
  refine w_aload_n (pc := 81) hX dX7_init_81 rfl rfl ?_
  refine w_new (pc := 82) (fs := [.int 0, .int 0, .null, .null]) (C := RX5) (T := TX5) (N := 4) (ci := 5) hX dX7_init_82 hX5 tyX5 tyX5_ok (List.mem_of_getElem? (i := 23) rfl) (List.mem_of_getElem? (i := 24) rfl) (List.mem_of_getElem? (i := 25) rfl) rfl (fun j hj => by rcases (show j = 0 ∨ j = 1 ∨ j = 2 ∨ j = 3 by omega) with rfl | rfl | rfl | rfl <;> rfl) ⟨Nat.le_of_ble_eq_true rfl, Nat.le_of_ble_eq_true rfl⟩ (fun z7 => ?_)
  refine w_dup (pc := 85) hX dX7_init_85 rfl ?_
  refine w_callG (pc := 86) hX (runIN (rest := [.ref z7, .ref q]) hX [50] (ctX5_init G z7) dX7_init_86 0 gX7_init_X5_init_n48 rfl (List.mem_of_getElem? (i := 2) rfl) ⟨(List.mem_of_getElem? (i := 25) rfl), (List.mem_of_getElem? (i := 81) rfl)⟩ rfl hyX5_init.2 ⟨Nat.le_of_ble_eq_true rfl, Nat.le_of_ble_eq_true rfl⟩ rfl rfl (Nat.le_of_ble_eq_true rfl) ⟨Nat.le_of_ble_eq_true rfl, Nat.le_of_ble_eq_true rfl⟩ rfl rfl) [50] rfl (fun v w1 hp => ?_)
  obtain ⟨rfl, a7, rfl, rfl⟩ := hp
  refine ⟨(wX5 G a7 (0, 0, (fun _ => 0), (fun _ => 0))).take 1, (wX5 G a7 (0, 0, (fun _ => 0), (fun _ => 0))).drop 1, rfl, rfl, ?_⟩
  refine w_ws (ws' := [(q, .inr (7, [.ref (a0 0), .ref (a1 0), .ref (a2 3 0), .ref (a3 0), .ref (a4 0), .ref (a5 0), .ref (a6 0), .null, .null, .null, .int 0]))] ++ wX3 G a0 o ++ wX3 G a1 o ++ wX2 G a2 (0, 0, fun _ => o) ++ wX4 G a3 (0, 0, 0, (fun _ => 0), 0, 0, 0) ++ wX6 G a4 (0, (fun _ => 0), (fun _ => 0), (fun _ => 0), (fun _ => 0)) ++ wX6 G a5 (0, (fun _ => 0), (fun _ => 0), (fun _ => 0), (fun _ => 0)) ++ wX6 G a6 (0, (fun _ => 0), (fun _ => 0), (fun _ => 0), (fun _ => 0)) ++ wX5 G a7 (0, 0, (fun _ => 0), (fun _ => 0))) rfl ?_
  refine pF_X7_walk hN (pc := 89) hX dX7_init_89 hX7 (List.mem_of_getElem? (i := 26) rfl) 0 rfl rfl ?_
  refine w_aload_n (pc := 92) hX dX7_init_92 rfl rfl ?_
  refine w_new (pc := 93) (fs := [.null]) (C := RX0) (T := TX0) (N := 1) (ci := 0) hX dX7_init_93 hX0 tyX0 tyX0_ok (List.mem_of_getElem? (i := 27) rfl) (List.mem_of_getElem? (i := 28) rfl) (List.mem_of_getElem? (i := 29) rfl) rfl (fun j hj => by rcases (show j = 0 by omega) with rfl <;> rfl) ⟨Nat.le_of_ble_eq_true rfl, Nat.le_of_ble_eq_true rfl⟩ (fun z8 => ?_)
  refine w_dup (pc := 96) hX dX7_init_96 rfl ?_
  refine w_callG (pc := 97) hX (runIN (rest := [.ref z8, .ref q]) hX [53] (ctX0_init G z8) dX7_init_97 0 gX7_init_X0_init_n55 rfl (List.mem_of_getElem? (i := 3) rfl) ⟨(List.mem_of_getElem? (i := 29) rfl), (List.mem_of_getElem? (i := 86) rfl)⟩ rfl hyX0_init.2 ⟨Nat.le_of_ble_eq_true rfl, Nat.le_of_ble_eq_true rfl⟩ rfl rfl (Nat.le_of_ble_eq_true rfl) ⟨Nat.le_of_ble_eq_true rfl, Nat.le_of_ble_eq_true rfl⟩ rfl rfl) [53] rfl (fun v w1 hp => ?_)
  obtain ⟨rfl, a8, rfl, rfl⟩ := hp
  refine ⟨(wX0 G a8 (fun _ => 0)).take 1, (wX0 G a8 (fun _ => 0)).drop 1, rfl, rfl, ?_⟩
  refine w_ws (ws' := [(q, .inr (7, [.ref (a0 0), .ref (a1 0), .ref (a2 3 0), .ref (a3 0), .ref (a4 0), .ref (a5 0), .ref (a6 0), .ref (a7 0), .null, .null, .int 0]))] ++ wX3 G a0 o ++ wX3 G a1 o ++ wX2 G a2 (0, 0, fun _ => o) ++ wX4 G a3 (0, 0, 0, (fun _ => 0), 0, 0, 0) ++ wX6 G a4 (0, (fun _ => 0), (fun _ => 0), (fun _ => 0), (fun _ => 0)) ++ wX6 G a5 (0, (fun _ => 0), (fun _ => 0), (fun _ => 0), (fun _ => 0)) ++ wX6 G a6 (0, (fun _ => 0), (fun _ => 0), (fun _ => 0), (fun _ => 0)) ++ wX5 G a7 (0, 0, (fun _ => 0), (fun _ => 0)) ++ wX0 G a8 (fun _ => 0)) rfl ?_
  refine pF_X7_builder hN (pc := 100) hX dX7_init_100 hX7 (List.mem_of_getElem? (i := 30) rfl) 0 rfl rfl ?_
  refine w_aload_n (pc := 103) hX dX7_init_103 rfl rfl ?_
  refine w_new (pc := 104) (fs := [.int 0, .int 0, .int 0, .int 0, .int 0, .null]) (C := RX1) (T := TX1) (N := 6) (ci := 1) hX dX7_init_104 hX1 tyX1 tyX1_ok (List.mem_of_getElem? (i := 31) rfl) (List.mem_of_getElem? (i := 32) rfl) (List.mem_of_getElem? (i := 33) rfl) rfl (fun j hj => by rcases (show j = 0 ∨ j = 1 ∨ j = 2 ∨ j = 3 ∨ j = 4 ∨ j = 5 by omega) with rfl | rfl | rfl | rfl | rfl | rfl <;> rfl) ⟨Nat.le_of_ble_eq_true rfl, Nat.le_of_ble_eq_true rfl⟩ (fun z9 => ?_)
  refine w_dup (pc := 107) hX dX7_init_107 rfl ?_
  refine w_callG (pc := 108) hX (runIN (rest := [.ref z9, .ref q]) hX [55] (ctX1_init G z9) dX7_init_108 0 gX7_init_X1_init_n62 rfl (List.mem_of_getElem? (i := 4) rfl) ⟨(List.mem_of_getElem? (i := 33) rfl), (List.mem_of_getElem? (i := 90) rfl)⟩ rfl hyX1_init.2 ⟨Nat.le_of_ble_eq_true rfl, Nat.le_of_ble_eq_true rfl⟩ rfl rfl (Nat.le_of_ble_eq_true rfl) ⟨Nat.le_of_ble_eq_true rfl, Nat.le_of_ble_eq_true rfl⟩ rfl rfl) [55] rfl (fun v w1 hp => ?_)
  obtain ⟨rfl, a9, rfl, rfl⟩ := hp
  refine ⟨(wX1 G a9 (0, 0, 0, 0, 0, (fun _ => 0))).take 1, (wX1 G a9 (0, 0, 0, 0, 0, (fun _ => 0))).drop 1, rfl, rfl, ?_⟩
  refine w_ws (ws' := [(q, .inr (7, [.ref (a0 0), .ref (a1 0), .ref (a2 3 0), .ref (a3 0), .ref (a4 0), .ref (a5 0), .ref (a6 0), .ref (a7 0), .ref (a8 0), .null, .int 0]))] ++ wX3 G a0 o ++ wX3 G a1 o ++ wX2 G a2 (0, 0, fun _ => o) ++ wX4 G a3 (0, 0, 0, (fun _ => 0), 0, 0, 0) ++ wX6 G a4 (0, (fun _ => 0), (fun _ => 0), (fun _ => 0), (fun _ => 0)) ++ wX6 G a5 (0, (fun _ => 0), (fun _ => 0), (fun _ => 0), (fun _ => 0)) ++ wX6 G a6 (0, (fun _ => 0), (fun _ => 0), (fun _ => 0), (fun _ => 0)) ++ wX5 G a7 (0, 0, (fun _ => 0), (fun _ => 0)) ++ wX0 G a8 (fun _ => 0) ++ wX1 G a9 (0, 0, 0, 0, 0, (fun _ => 0))) rfl ?_
  refine pF_X7_exchanger hN (pc := 111) hX dX7_init_111 hX7 (List.mem_of_getElem? (i := 34) rfl) 0 rfl rfl ?_
  refine w_aload_n (pc := 114) hX dX7_init_114 rfl rfl ?_
  refine w_iconst (pc := 115) hX dX7_init_115 ic_0 ?_
  refine pf_X7_hasSnapshot (pc := 116) hX dX7_init_116 hX7 (List.mem_of_getElem? (i := 35) rfl) 0 rfl rfl (o := ()) (K := some ()) (by rfl) (fun _ => ?_)
  obtain ⟨a, ha⟩ : ∃ a : Nat → Nat → Nat, a = (fun n i => if n = 0 then q else if n = 1 then a0 i else if n = 2 then a1 i else if n = 4 then a3 i else if n = 5 then a4 i else if n = 6 then a5 i else if n = 7 then a6 i else if n = 8 then a7 i else if n = 9 then a8 i else if n = 10 then a9 i else a2 n i) := ⟨_, rfl⟩
  have g0 : q = a 0 0 := by rw [ha]; rfl
  have b0 : a0 = a 1 := by rw [ha]; rfl
  have b1 : a1 = a 2 := by rw [ha]; rfl
  have b3 : a3 = a 4 := by rw [ha]; rfl
  have b4 : a4 = a 5 := by rw [ha]; rfl
  have b5 : a5 = a 6 := by rw [ha]; rfl
  have b6 : a6 = a 7 := by rw [ha]; rfl
  have b7 : a7 = a 8 := by rw [ha]; rfl
  have b8 : a8 = a 9 := by rw [ha]; rfl
  have b9 : a9 = a 10 := by rw [ha]; rfl
  have c3 : a2 3 = a 3 := by rw [ha]; rfl
  have c11 : a2 11 = a 11 := by rw [ha]; rfl
  have c12 : a2 12 = a 12 := by rw [ha]; rfl
  have c13 : a2 13 = a 13 := by rw [ha]; rfl
  have c14 : a2 14 = a 14 := by rw [ha]; rfl
  clear ha
  subst g0 b0 b1 b3 b4 b5 b6 b7 b8 b9
  refine w_qq (g := qH a 0) 12 rfl (fun j hj => ?_) ?_
  · rcases (show j = 0 ∨ j = 1 ∨ j = 2 ∨ j = 3 by omega) with rfl | rfl | rfl | rfl <;> simp only [qH] <;> first | rw [show (11 + (0 + 0) % 4) = 11 from rfl, c11] | rw [show (11 + (1 + 0) % 4) = 12 from rfl, c12] | rw [show (11 + (2 + 0) % 4) = 13 from rfl, c13] | rw [show (11 + (3 + 0) % 4) = 14 from rfl, c14]
  refine w_vret (pc := 119) hX hR dX7_init_119 ⟨rfl, a, rfl, ?_⟩
  dsimp only [wX7, wX3, wX2, wX4, wX6, wX5, wX0, wX1, List.cons_append, List.nil_append, List.append_assoc, List.set_cons_zero, List.set_cons_succ]
  simp only [c3, c11, c12, c13, c14]

