/-! THE LAW, from its entry -/
theorem ns_in : ∀ q ∈ nsq, nsc q ∈ lw_tbl := by decide +kernel
theorem ao_in : Cond.arrayOver (.object "PortraitMazes$Maze") ∈ lw_tbl := by decide +kernel
theorem ai_in : Cond.arrayClass .int ∈ lw_tbl := wsL_law_in _ (List.mem_of_getElem? (i := 48) rfl)
theorem az_in : Cond.arrayClass .boolean ∈ lw_tbl := wsL_law_in _ (List.mem_of_getElem? (i := 112) rfl)
theorem law_KK {s : State} {args : Array Value} (hts : ∀ w ∈ lw_tbl, w.before args s = true) : ∃ G : gT, KK G s := by
  obtain ⟨c0, i0, k0⟩ := u_known (C := RX0) (T := TX0) (N := 1) (n := 1) hts inX0 (hts (.instantiable RX0 1) (wsL_law_in _ (List.mem_of_getElem? (i := 36) rfl)))
  obtain ⟨c1, i1, k1⟩ := u_known (C := RX1) (T := TX1) (N := 6) (n := 6) hts inX1 (hts (.instantiable RX1 6) (wsL_law_in _ (List.mem_of_getElem? (i := 40) rfl)))
  obtain ⟨c2, i2, k2⟩ := u_known (C := RX2) (T := TX2) (N := 2) (n := 2) hts inX2 (hts (.instantiable RX2 2) (wsL_law_in _ (List.mem_of_getElem? (i := 18) rfl)))
  obtain ⟨c3, i3, k3⟩ := u_known (C := RX3) (T := TX3) (N := 6) (n := 6) hts inX3 (hts (.instantiable RX3 6) (wsL_law_in _ (List.mem_of_getElem? (i := 13) rfl)))
  obtain ⟨c4, i4, k4⟩ := u_known (C := RX4) (T := TX4) (N := 7) (n := 7) hts inX4 (hts (.instantiable RX4 7) (wsL_law_in _ (List.mem_of_getElem? (i := 22) rfl)))
  obtain ⟨c5, i5, k5⟩ := u_known (C := RX5) (T := TX5) (N := 4) (n := 4) hts inX5 (hts (.instantiable RX5 4) (wsL_law_in _ (List.mem_of_getElem? (i := 32) rfl)))
  obtain ⟨c6, i6, k6⟩ := u_known (C := RX6) (T := TX6) (N := 5) (n := 5) hts inX6 (hts (.instantiable RX6 5) (wsL_law_in _ (List.mem_of_getElem? (i := 26) rfl)))
  obtain ⟨c7, i7, k7⟩ := u_known (C := RX7) (T := TX7) (N := 11) (n := 11) hts inX7 (hts (.instantiable RX7 11) (wsL_law_in _ (List.mem_of_getElem? (i := 1) rfl)))
  obtain ⟨c8, i8, k8⟩ := u_known (C := RX8) (T := TX8) (N := 24) (n := 24) hts inX8 (hts (.instantiable RX8 24) (wsL_law_in _ (List.mem_of_getElem? (i := 4) rfl)))
  obtain ⟨cI, kI, pI, fI, gI, hI⟩ := Cond.arrayClass_spec (hts _ ai_in)
  obtain ⟨cZ, kZ, pZ, fZ, gZ, hZ⟩ := Cond.arrayClass_spec (hts _ az_in)
  obtain ⟨pQ, cQ, kQ, q1, q2, q3, q4, q5⟩ := Cond.arrayOver_spec (hts _ ao_in)
  refine ⟨((fun k => match k with | 0 => c0 | 1 => c1 | 2 => c2 | 3 => c3 | 4 => c4 | 5 => c5 | 6 => c6 | 7 => c7 | _ => c8, fun k => match k with | 0 => i0 | 1 => i1 | 2 => i2 | 3 => i3 | 4 => i4 | 5 => i5 | 6 => i6 | 7 => i7 | _ => i8), (cI, cZ, cQ)), ⟨?_, ?_⟩, ?_⟩
  · intro k q hq
    match k, hq with
    | 0, hq => cases hq; exact k0
    | 1, hq => cases hq; exact k1
    | 2, hq => cases hq; exact k2
    | 3, hq => cases hq; exact k3
    | 4, hq => cases hq; exact k4
    | 5, hq => cases hq; exact k5
    | 6, hq => cases hq; exact k6
    | 7, hq => cases hq; exact k7
    | 8, hq => cases hq; exact k8
    | k + 9, hq => simp [vwCl] at hq
  · intro k q hq
    match k, hq with
    | 0, hq => cases hq; exact ⟨fun N z => ⟨(fun k h => by cases h), kI, gI, pI, hI⟩, fI⟩
    | 1, hq => cases hq; exact ⟨fun N z => ⟨(fun k h => by cases h), kZ, gZ, pZ, hZ⟩, fZ⟩
    | 2, hq => cases hq; exact ⟨fun N z => ⟨(fun k h => by cases h), kQ, q3, pQ, q4⟩, kQ, pQ, q3, q4, q1, q5⟩
    | k + 3, hq => simp [gY] at hq
  · exact fun q hq => ⟨va_Nw.of rfl (hts _ (ns_in q hq)), va_AO.of (hts _ ao_in)⟩
set_option maxHeartbeats 4000000 in
set_option maxRecDepth 100000 in
theorem law_go {G : gT} {X : xT} {b L : Nat} {xs : Nat → Int32} (hX : Ok G X cL_law RL wsL_law 4 room_1) (hsc : SC X b L xs) (hL : L ≤ 2048) (hend : ∀ ws lv, WW G X 70 2420 ws lv 675 []) : WW G X 0 0 [] [some (.ref b), none, none, none] 0 [] := by
  obtain ⟨o, o', m1, m2, hI⟩ := fresh_s (F := 401) (by omega)
  refine w_new (pc := 0) (fs := [.null, .null, .null, .null, .null, .null, .null, .null, .null, .null, .int 0]) (C := RX7) (T := TX7) (N := 11) (ci := 7) hX dL_law_0 inlX7 tyX7 tyX7_ok (List.mem_of_getElem? (i := 0) rfl) (List.mem_of_getElem? (i := 1) rfl) (List.mem_of_getElem? (i := 2) rfl) rfl (fun j hj => by rcases (show j = 0 ∨ j = 1 ∨ j = 2 ∨ j = 3 ∨ j = 4 ∨ j = 5 ∨ j = 6 ∨ j = 7 ∨ j = 8 ∨ j = 9 ∨ j = 10 by omega) with rfl | rfl | rfl | rfl | rfl | rfl | rfl | rfl | rfl | rfl | rfl <;> rfl) ⟨Nat.le_of_ble_eq_true rfl, Nat.le_of_ble_eq_true rfl⟩ (fun q => ?_)
  refine w_dup (pc := 3) hX dL_law_3 rfl ?_
  refine w_callG (pc := 4) hX (runI (rest := [.ref q]) hX [0] (ctX7_init G 401 q o m1) dL_law_4 0 gL_law_X7_init rfl ⟨(List.mem_of_getElem? (i := 2) rfl), (List.mem_of_getElem? (i := 6) rfl), (List.mem_of_getElem? (i := 7) rfl)⟩ rfl hyX7_init.2 ⟨Nat.le_of_ble_eq_true rfl, Nat.le_of_ble_eq_true rfl⟩ rfl rfl (Nat.le_of_ble_eq_true rfl) ⟨Nat.le_of_ble_eq_true rfl, Nat.le_of_ble_eq_true rfl⟩ rfl rfl) [0] rfl (fun v w1 hp => ?_)
  obtain ⟨rfl, a, rfl, rfl⟩ := hp
  refine ⟨(wX7 G a 0 ++ wX3 G (a 1) o ++ wX3 G (a 2) o ++ wX2 G a (0, 0, fun _ => o) ++ wX4 G (a 4) (0, 0, 0, (fun _ => 0), 0, 0, 0) ++ wX6 G (a 5) (0, (fun _ => 0), (fun _ => 0), (fun _ => 0), (fun _ => 0)) ++ wX6 G (a 6) (0, (fun _ => 0), (fun _ => 0), (fun _ => 0), (fun _ => 0)) ++ wX6 G (a 7) (0, (fun _ => 0), (fun _ => 0), (fun _ => 0), (fun _ => 0)) ++ wX5 G (a 8) (0, 0, (fun _ => 0), (fun _ => 0)) ++ wX0 G (a 9) (fun _ => 0) ++ wX1 G (a 10) (0, 0, 0, 0, 0, (fun _ => 0))).take 1, (wX7 G a 0 ++ wX3 G (a 1) o ++ wX3 G (a 2) o ++ wX2 G a (0, 0, fun _ => o) ++ wX4 G (a 4) (0, 0, 0, (fun _ => 0), 0, 0, 0) ++ wX6 G (a 5) (0, (fun _ => 0), (fun _ => 0), (fun _ => 0), (fun _ => 0)) ++ wX6 G (a 6) (0, (fun _ => 0), (fun _ => 0), (fun _ => 0), (fun _ => 0)) ++ wX6 G (a 7) (0, (fun _ => 0), (fun _ => 0), (fun _ => 0), (fun _ => 0)) ++ wX5 G (a 8) (0, 0, (fun _ => 0), (fun _ => 0)) ++ wX0 G (a 9) (fun _ => 0) ++ wX1 G (a 10) (0, 0, 0, 0, 0, (fun _ => 0))).drop 1, rfl, rfl, ?_⟩
  refine w_ws (ws' := wX7 G a 0 ++ wX3 G (a 1) o ++ wX3 G (a 2) o ++ wX2 G a (0, 0, fun _ => o) ++ wX4 G (a 4) (0, 0, 0, (fun _ => 0), 0, 0, 0) ++ wX6 G (a 5) (0, (fun _ => 0), (fun _ => 0), (fun _ => 0), (fun _ => 0)) ++ wX6 G (a 6) (0, (fun _ => 0), (fun _ => 0), (fun _ => 0), (fun _ => 0)) ++ wX6 G (a 7) (0, (fun _ => 0), (fun _ => 0), (fun _ => 0), (fun _ => 0)) ++ wX5 G (a 8) (0, 0, (fun _ => 0), (fun _ => 0)) ++ wX0 G (a 9) (fun _ => 0) ++ wX1 G (a 10) (0, 0, 0, 0, 0, (fun _ => 0))) rfl ?_
  refine w_astore_n (pc := 7) hX dL_law_7 rfl (by decide) ?_
  refine w_new (pc := 8) (fs := [.null, .null, .null, .int 0, .null, .int 0, .null, .int 0, .null, .null, .null, .null, .int 0, .int 0, .null, .null, .int 0, .int 0, .int 0, .null, .int 0, .int 0, .int 0, .int 0]) (C := RX8) (T := TX8) (N := 24) (ci := 8) hX dL_law_8 inlX8 tyX8 tyX8_ok (List.mem_of_getElem? (i := 3) rfl) (List.mem_of_getElem? (i := 4) rfl) (List.mem_of_getElem? (i := 5) rfl) rfl (fun j hj => by rcases (show j = 0 ∨ j = 1 ∨ j = 2 ∨ j = 3 ∨ j = 4 ∨ j = 5 ∨ j = 6 ∨ j = 7 ∨ j = 8 ∨ j = 9 ∨ j = 10 ∨ j = 11 ∨ j = 12 ∨ j = 13 ∨ j = 14 ∨ j = 15 ∨ j = 16 ∨ j = 17 ∨ j = 18 ∨ j = 19 ∨ j = 20 ∨ j = 21 ∨ j = 22 ∨ j = 23 by omega) with rfl | rfl | rfl | rfl | rfl | rfl | rfl | rfl | rfl | rfl | rfl | rfl | rfl | rfl | rfl | rfl | rfl | rfl | rfl | rfl | rfl | rfl | rfl | rfl <;> rfl) ⟨Nat.le_of_ble_eq_true rfl, Nat.le_of_ble_eq_true rfl⟩ (fun z => ?_)
  refine w_dup (pc := 11) hX dL_law_11 rfl ?_
  refine w_callG (pc := 12) hX (runI (rest := [.ref z]) hX [57] (ctX8_init G 401 z o' m2) dL_law_12 0 gL_law_X8_init rfl ⟨(List.mem_of_getElem? (i := 5) rfl), (List.mem_of_getElem? (i := 101) rfl), (List.mem_of_getElem? (i := 102) rfl)⟩ rfl hyX8_init.2 ⟨Nat.le_of_ble_eq_true rfl, Nat.le_of_ble_eq_true rfl⟩ rfl rfl (Nat.le_of_ble_eq_true rfl) ⟨Nat.le_of_ble_eq_true rfl, Nat.le_of_ble_eq_true rfl⟩ rfl rfl) [57] rfl (fun v w1 hp => ?_)
  obtain ⟨rfl, a8, rfl, rfl⟩ := hp
  refine ⟨(wX8 G a8 o' (fun _ => 0) (fun _ => 0) 0 (fun _ => 0) 0 (fun _ => 0) 0 (fun _ => 0) (fun _ => 0) (fun _ => 0) (fun _ => 0) 0 0 (fun _ => 0) (fun _ => 0) 0 0 0 (fun _ => 0) 0 0 0 0).take 1, (wX8 G a8 o' (fun _ => 0) (fun _ => 0) 0 (fun _ => 0) 0 (fun _ => 0) 0 (fun _ => 0) (fun _ => 0) (fun _ => 0) (fun _ => 0) 0 0 (fun _ => 0) (fun _ => 0) 0 0 0 (fun _ => 0) 0 0 0 0).drop 1, rfl, rfl, ?_⟩
  refine w_ws (ws' := wA G a a8 0 o o (0, 0, fun _ => o) (0, 0, 0, (fun _ => 0), 0, 0, 0) (0, (fun _ => 0), (fun _ => 0), (fun _ => 0), (fun _ => 0)) (0, (fun _ => 0), (fun _ => 0), (fun _ => 0), (fun _ => 0)) (0, (fun _ => 0), (fun _ => 0), (fun _ => 0), (fun _ => 0)) (0, 0, (fun _ => 0), (fun _ => 0)) (fun _ => 0) (0, 0, 0, 0, 0, (fun _ => 0)) o' (fun _ => 0) (fun _ => 0) 0 (fun _ => 0) 0 (fun _ => 0) 0 (fun _ => 0) (fun _ => 0) (fun _ => 0) (fun _ => 0) 0 0 (fun _ => 0) (fun _ => 0) 0 0 0 (fun _ => 0) 0 0 0 0) rfl ?_
  refine w_astore_n (pc := 15) hX dL_law_15 rfl (by decide) ?_
  refine w_iconst (pc := 16) (v := jI ((4 * 0 : Nat) : Int)) hX dL_law_16 (by decide) ?_
  refine w_istore_n (pc := 17) hX dL_law_17 rfl (by decide) ?_
  exact law_loop hX hsc ⟨Nat.le_of_ble_eq_true rfl, Nat.le_of_ble_eq_true rfl⟩ hL hend (L + 1) 0 (by omega) (by omega) 0 o o (0, 0, fun _ => o) (0, 0, 0, (fun _ => 0), 0, 0, 0) (0, (fun _ => 0), (fun _ => 0), (fun _ => 0), (fun _ => 0)) (0, (fun _ => 0), (fun _ => 0), (fun _ => 0), (fun _ => 0)) (0, (fun _ => 0), (fun _ => 0), (fun _ => 0), (fun _ => 0)) (0, 0, (fun _ => 0), (fun _ => 0)) (fun _ => 0) (0, 0, 0, 0, 0, (fun _ => 0)) o' (fun _ => 0) (fun _ => 0) 0 (fun _ => 0) 0 (fun _ => 0) 0 (fun _ => 0) (fun _ => 0) (fun _ => 0) (fun _ => 0) 0 0 (fun _ => 0) (fun _ => 0) 0 0 0 (fun _ => 0) 0 0 0 0 hI
set_option maxHeartbeats 4000000 in
theorem whole_start {p : Program} {e : Env} {s : State} {m : MethodId} {below : List Frame} {meth : Method} {c : Code} (l : Launch) (_hflags : l.flags = flags0) {b L : Nat} {xs : Nat → Int32} (hL : L ≤ 2048) (C0 : lw_At p s m meth c b L xs) : W p l e room_1 s m #[Value.ref b] below meth c s.heap [] 0 0 (lw_Z below #[Value.ref b] s) (entryFrame m ([Value.ref b] : List Value).toArray 4) := by
  obtain ⟨hx, hb, hr, hml, hown, hts, hXs, hbl, hlocks, hgv⟩ := C0
  obtain ⟨G, hK⟩ := law_KK hts
  have hOk : Ok G (p, l, e, room_1, s, m, #[Value.ref b], below, meth, c, s.heap, (fun q => s.heap.size ≤ q), lw_Z below #[Value.ref b] s, 4) cL_law RL wsL_law 4 room_1 := ⟨hx, hb, hml, rfl, hown, fun w hw => hts w (wsL_law_in w hw), hK, fun q h => h, hlocks, rfl⟩
  have hsc : SC (p, l, e, room_1, s, m, #[Value.ref b], below, meth, c, s.heap, (fun q => s.heap.size ≤ q), lw_Z below #[Value.ref b] s, 4) b L xs := ⟨hXs, hbl, Nat.not_le.mpr hbl⟩
  have h := law_go hOk hsc hL (fun ws lv => w_iconst (pc := 675) hOk dL_law_675 ic_1 (fun H locs ls hP hD hS hl => va_forget (fun q hq => hS.2.2 q hq) (W.widen (k := 600000) (n := 7302250) (Nat.le_of_ble_eq_true rfl) (Nat.le_of_ble_eq_true rfl) (lw_ret hx hb hr hlocks dL_law_676))))
  have hl := lv_entry ([.ref b]) (n := 4) (Nat.le_of_ble_eq_true rfl)
  rw [lg_entry_eq]
  generalize (lg_sl ([.ref b]) ++ List.replicate (4 - (lg_sl ([.ref b])).length) Slot.unset).toArray = ls at hl ⊢
  have hl : lv_has ls 4 [(0, .ref b)] := hl
  refine h s.heap [] ls (fun k q hq => by simp at hq) ⟨fun i j x y hi => by simp at hi, fun k q hq => by simp at hq⟩ va_S.rf ⟨hl.1, hl.2.1, fun i v hi => ?_⟩
  match i, hi with
  | 0, hi => cases hi; exact ⟨hl.2.2 (0, .ref b) List.mem_cons_self, rfl⟩
  | 1, hi => cases hi
  | 2, hi => cases hi
  | 3, hi => cases hi
  | i + 4, hi => cases hi
