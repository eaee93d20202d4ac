/-! FRAME, second part: returns, calls, new cells -/
def putL : va_W → List Nat → va_W → va_W
  | ws, i :: is, w :: wl => putL (ws.set i w) is wl
  | ws, _, _ => ws
theorem putL_get : ∀ (is : List Nat) (w1 ws : va_W) (k : Nat) (q : Nat × va_E), (putL ws is w1)[k]? = some q → (∃ j : Nat, is[j]? = some k ∧ w1[j]? = some q) ∨ ((k ∉ is ∨ is.length ≠ w1.length) ∧ ws[k]? = some q) := by
  intro is
  induction is with
  | nil => intro w1 ws k q h; cases w1 <;> exact Or.inr ⟨Or.inl List.not_mem_nil, h⟩
  | cons i is ih =>
    intro w1 ws k q h
    cases w1 with
    | nil => exact Or.inr ⟨Or.inr (by simp), h⟩
    | cons w wl =>
      rcases ih wl (ws.set i w) k q h with ⟨j, h1, h2⟩ | ⟨h1, h2⟩
      · exact Or.inl ⟨j + 1, h1, h2⟩
      · by_cases hki : k = i
        · subst hki
          have hl : k < ws.length := by
            have := (List.getElem?_eq_some_iff.mp h2).1
            rwa [List.length_set] at this
          rw [List.getElem?_set_self hl] at h2
          cases h2
          exact Or.inl ⟨0, rfl, rfl⟩
        · rw [List.getElem?_set_ne (Ne.symm hki)] at h2
          refine Or.inr ⟨?_, h2⟩
          rcases h1 with h1 | h1
          · exact Or.inl (fun hm => by rcases List.mem_cons.mp hm with e | e; exact hki e; exact h1 e)
          · exact Or.inr (by simpa using h1)
theorem map_at {is : List Nat} {ws wc : va_W} (hC : is.map (fun i => ws[i]?) = wc.map some) {j : Nat} {q : Nat × va_E} (hj : wc[j]? = some q) : ∃ i, is[j]? = some i ∧ ws[i]? = some q := by
  have h1 : (is.map (fun i => ws[i]?))[j]? = some (some q) := by rw [hC, List.getElem?_map, hj]; rfl
  rw [List.getElem?_map] at h1
  cases hi : is[j]? with
  | none => rw [hi] at h1; cases h1
  | some i => rw [hi] at h1; exact ⟨i, rfl, Option.some.inj h1⟩
theorem map_ta {is : List Nat} {ws wc : va_W} (hC : is.map (fun i => ws[i]?) = wc.map some) {j i : Nat} (hj : is[j]? = some i) : ∃ q, wc[j]? = some q ∧ ws[i]? = some q := by
  have h1 : (wc.map some)[j]? = some (ws[i]?) := by rw [← hC, List.getElem?_map, hj]; rfl
  rw [List.getElem?_map] at h1
  cases hq : wc[j]? with
  | none => rw [hq] at h1; cases h1
  | some q => rw [hq] at h1; exact ⟨q, rfl, (Option.some.inj h1).symm⟩
theorem map_fm {is : List Nat} {ws wc : va_W} (hC : is.map (fun i => ws[i]?) = wc.map some) : is.filterMap (fun i => ws[i]?) = wc := by
  have h2 : ∀ (is : List Nat), is.filterMap (fun i => ws[i]?) = (is.map (fun i => ws[i]?)).filterMap id := by
    intro is
    rw [List.filterMap_map]
    rfl
  rw [h2, hC, List.filterMap_map]
  simp
theorem map_len {is : List Nat} {ws wc : va_W} (hC : is.map (fun i => ws[i]?) = wc.map some) : is.length = wc.length := by
  have := congrArg List.length hC
  simpa using this
theorem fst_at {wa wc : va_W} (h : wa.map Prod.fst = wc.map Prod.fst) {j : Nat} {q : Nat × va_E} (hj : wa[j]? = some q) : ∃ q0, wc[j]? = some q0 ∧ q0.1 = q.1 := by
  have h1 : (wc.map Prod.fst)[j]? = some q.1 := by rw [← h, List.getElem?_map, hj]; rfl
  rw [List.getElem?_map] at h1
  cases hq : wc[j]? with
  | none => rw [hq] at h1; cases h1
  | some q0 => rw [hq] at h1; exact ⟨q0, rfl, Option.some.inj h1⟩
theorem putL_self : ∀ (is : List Nat) (wc ws : va_W), is.map (fun i => ws[i]?) = wc.map some → putL ws is wc = ws := by
  intro is
  induction is with
  | nil => intro wc ws h; cases wc <;> rfl
  | cons i is ih =>
    intro wc ws h
    cases wc with
    | nil => rfl
    | cons w wl =>
      simp only [List.map_cons, List.cons.injEq] at h
      have hi := (List.getElem?_eq_some_iff.mp h.1)
      have hs : ws.set i w = ws := by
        apply List.ext_getElem?
        intro j
        by_cases hj : i = j
        · subst hj
          rw [List.getElem?_set_self hi.1, h.1]
        · rw [List.getElem?_set_ne hj]
      show putL (ws.set i w) is wl = ws
      rw [hs]
      exact ih wl ws h.2
/-- the same in one pass: for each place, what comes there -/
def ixo : List Nat → Nat → Option Nat
  | [], _ => none
  | i :: is, k => match ixo is k with
    | some j => some (j + 1)
    | none => if i = k then some 0 else none
def putO : va_W → List (Option Nat) → va_W → va_W
  | e :: ws, none :: os, w1 => e :: putO ws os w1
  | e :: ws, some j :: os, w1 => (w1[j]?).getD e :: putO ws os w1
  | ws, _, _ => ws
theorem putL_at : ∀ (is : List Nat) (w1 ws : va_W) (k : Nat), k < ws.length → is.length = w1.length → (putL ws is w1)[k]? = (match ixo is k with
    | some j => w1[j]?
    | none => ws[k]?) := by
  intro is
  induction is with
  | nil => intro w1 ws k _ hl; cases w1 with
    | nil => rfl
    | cons _ _ => simp at hl
  | cons i is ih =>
    intro w1 ws k hk hl
    cases w1 with
    | nil => simp at hl
    | cons w wl =>
      have h := ih wl (ws.set i w) k (by rw [List.length_set]; exact hk) (by simpa using hl)
      show (putL (ws.set i w) is wl)[k]? = _
      rw [h]
      simp only [ixo]
      cases hx : ixo is k with
      | some j => rfl
      | none =>
        by_cases e : i = k
        · subst e
          rw [if_pos rfl]
          exact List.getElem?_set_self hk
        · rw [if_neg e]
          exact List.getElem?_set_ne e
theorem ixo_lt : ∀ (is : List Nat) (k j : Nat), ixo is k = some j → j < is.length := by
  intro is
  induction is with
  | nil => intro k j h; cases h
  | cons i is ih =>
    intro k j h
    simp only [ixo] at h
    cases hx : ixo is k with
    | some j' =>
      rw [hx] at h
      cases h
      have := ih k j' hx
      simp only [List.length_cons]
      omega
    | none =>
      rw [hx] at h
      dsimp only at h
      split at h
      · cases h; simp
      · cases h
theorem putO_at : ∀ (ws : va_W) (os : List (Option Nat)) (w1 : va_W) (k : Nat), (putO ws os w1)[k]? = (match os[k]? with
    | some (some j) => (ws[k]?).map (fun e => (w1[j]?).getD e)
    | _ => ws[k]?) := by
  intro ws
  induction ws with
  | nil => intro os w1 k; cases os with
    | nil => simp [putO]
    | cons o os => cases o <;> simp [putO] <;> split <;> rfl
  | cons e ws ih =>
    intro os w1 k
    cases os with
    | nil => simp [putO]
    | cons o os =>
      cases o with
      | none => cases k with
        | zero => rfl
        | succ k => simpa [putO] using ih os w1 k
      | some j => cases k with
        | zero => rfl
        | succ k => simpa [putO] using ih os w1 k
theorem putL_putO {ws w1 : va_W} {is : List Nat} {os : List (Option Nat)} {n : Nat} (hn : ws.length = n) (ho : os = (List.range n).map (ixo is)) (hl : is.length = w1.length) : putL ws is w1 = putO ws os w1 := by
  apply List.ext_getElem?
  intro k
  have hlen : ∀ (is : List Nat) (w1 ws : va_W), (putL ws is w1).length = ws.length := by
    intro is
    induction is with
    | nil => intro w1 ws; cases w1 <;> rfl
    | cons i is ih => intro w1 ws; cases w1 with
      | nil => rfl
      | cons w wl => show (putL (ws.set i w) is wl).length = _; rw [ih, List.length_set]
  rw [putO_at]
  by_cases hk : k < ws.length
  · rw [putL_at is w1 ws k hk hl, ho, List.getElem?_map, List.getElem?_range (by omega)]
    simp only [Option.map_some]
    cases hx : ixo is k with
    | none => rfl
    | some j =>
      have hj := ixo_lt is k j hx
      rw [List.getElem?_eq_getElem hk]
      simp only [Option.map_some]
      rw [List.getElem?_eq_getElem (by omega)]
      rfl
  · rw [List.getElem?_eq_none (by rw [hlen]; omega), List.getElem?_eq_none (l := ws) (by omega)]
    split <;> rfl
/-- a call that can run from here -/
def Runs (G : gT) (X : xT) (k n : Nat) (ws : va_W) (lv : List (Option Value)) (pc : Nat) (st0 rest : List Value) (rm' : Room) (wc : va_W) (P : Option Value → va_W → Prop) : Prop := match X with
  | (p, l, e, R, s, m, args, below, meth, c, H0, A, _, nL) => ∀ (H : Heap) (locs : List Loc) (ls : Array Slot), va_P G.1 vwCl ws H → va_D A ws → va_S A H0 H locs → lo_has ls nL lv → ∃ a : Array Value, va_Run p l e R s m args below meth c H locs k n rm'.cells rm'.slots (F0 m pc ls st0) rest (CQ G P (va_A wc H.size) a) (va_A wc H.size)
theorem w_callG {G : gT} {X : xT} {k n : Nat} {ws wc : va_W} {lv : List (Option Value)} {pc : Nat} {st0 rest : List Value} {cc : ByteArray} {own : String} {Ts : List Cond} {nL : Nat} {rm rm' : Room} {P : Option Value → va_W → Prop} (hX : Ok G X cc own Ts nL rm) (hr : Runs G X k n ws lv pc st0 rest rm' wc P) (isC : List Nat) (hC : isC.map (fun i => ws[i]?) = wc.map some)
    (kk : ∀ v w1, P v w1 → ∃ wa wn, w1 = wa ++ wn ∧ wa.map Prod.fst = wc.map Prod.fst ∧ WW G X (k + rm'.cells) (n + rm'.slots) (putL ws isC wa ++ wn) lv (pc + 3) (v.toList ++ rest)) : WW G X k n ws lv pc st0 := by
  obtain ⟨p, l, e, R, s, m, args, below, meth, c, H0, A, Q, nL'⟩ := X
  intro H locs ls hP hD hS hl T hT XX
  obtain ⟨a, hr⟩ := hr H locs ls hP hD hS hl
  obtain ⟨v, st₀, t, T', L, h0, X', hL, e1, e2, ⟨⟨v', w1, hv, hp, hP1, hD1⟩, hz, hk⟩, st⟩ := hr T hT XX
  cases hv
  rw [h0] at hz hk
  obtain ⟨wa, wn, rfl, haddr, kkw⟩ := kk v w1 hp
  have hA : ∀ q : Nat, H0.size ≤ q → A q := hX.2.2.2.2.2.2.2.1
  have hF := va_free hD hS hA isC hC
  have hlen : isC.length = wa.length := by
    have h1 := map_len hC
    have h2 := congrArg List.length haddr
    simp only [List.length_map] at h2
    omega
  have hPa : ∀ (j : Nat) (q : Nat × va_E), wa[j]? = some q → (wa ++ wn)[j]? = some q := fun j q hj => by
    rw [List.getElem?_append_left (List.getElem?_eq_some_iff.mp hj).1]; exact hj
  have hPn : ∀ (j : Nat) (q : Nat × va_E), wn[j]? = some q → (wa ++ wn)[wa.length + j]? = some q := fun j q hj => by
    rw [List.getElem?_append_right (by omega)]; simpa using hj
  have haC : ∀ (kx : Nat) (q : Nat × va_E), kx ∉ isC → ws[kx]? = some q → ¬ va_A wc H.size q.1 := by
    intro kx q hn hq' h
    rcases h with ⟨k2, e3, h⟩ | h
    · obtain ⟨i, h3, h4⟩ := map_at hC h
      have := hD.1 kx i q _ hq' h4 rfl
      subst this
      exact hn (List.mem_of_getElem? h3)
    · have := (hP kx q hq').lt
      omega
  have hfst : ∀ (kx : Nat) (q : Nat × va_E), (putL ws isC wa)[kx]? = some q → ∃ q0, ws[kx]? = some q0 ∧ q0.1 = q.1 := by
    intro kx q hq
    rcases putL_get isC wa ws kx q hq with ⟨j, h1, h2⟩ | ⟨-, h2⟩
    · obtain ⟨q0, h3, h4⟩ := fst_at haddr h2
      obtain ⟨i, h5, h6⟩ := map_at hC h3
      rw [h1] at h5
      cases h5
      exact ⟨q0, h6, h4⟩
    · exact ⟨q, h2, rfl⟩
  have hwn : ∀ (j : Nat) (q : Nat × va_E), wn[j]? = some q → H.size ≤ q.1 := by
    intro j q hj
    rcases hD1.2 _ q (hPn j q hj) with ⟨k2, e3, h⟩ | h
    · obtain ⟨q1, h3, h4⟩ := fst_at haddr.symm h
      have hlt := (List.getElem?_eq_some_iff.mp h3).1
      have h6 := hD1.1 k2 (wa.length + j) q1 q (hPa k2 q1 h3) (hPn j q hj) (by simpa using h4)
      omega
    · exact h
  have hPw : va_P G.1 vwCl (putL ws isC wa ++ wn) T'.heap := by
    refine va_P.app (fun kx q hq => ?_) (fun j q hj => ?_)
    · rcases putL_get isC wa ws kx q hq with ⟨j, h1, h2⟩ | ⟨h1, h2⟩
      · rw [e1]
        exact hP1 j q (hPa j q h2)
      · have hn : kx ∉ isC := by
          rcases h1 with h1 | h1
          · exact h1
          · exact absurd hlen h1
        exact (hP kx q h2).kept (by rw [e1]; exact hk q.1 (hP kx q h2).lt (haC kx q hn h2))
    · rw [e1]
      exact hP1 _ q (hPn j q hj)
  have hDw : va_D A (putL ws isC wa ++ wn) := by
    refine va_D.app ⟨fun i j x y hi hj hxy => ?_, fun kx q hq => ?_⟩ ⟨fun i j x y hi hj hxy => ?_, fun j q hj => hF _ (hD1.2 _ q (hPn j q hj))⟩ (fun i j x y hi hj hxy => ?_)
    · obtain ⟨x0, h1, h2⟩ := hfst i x hi
      obtain ⟨y0, h3, h4⟩ := hfst j y hj
      exact hD.1 i j x0 y0 h1 h3 (by rw [h2, h4, hxy])
    · obtain ⟨q0, h1, h2⟩ := hfst kx q hq
      rw [← h2]
      exact hD.2 kx q0 h1
    · have := hD1.1 (wa.length + i) (wa.length + j) x y (hPn i x hi) (hPn j y hj) hxy
      omega
    · obtain ⟨x0, h1, h2⟩ := hfst i x hi
      have h3 := (hP i x0 h1).lt
      have h4 := hwn j y hj
      omega
  obtain ⟨t2, a1, b1⟩ := kkw T'.heap (locs ++ L) ls hPw hDw ⟨Nat.le_trans hS.1 (by rw [e1]; exact hz), fun q h1 h2 => by rw [e1, hk q (Nat.lt_of_lt_of_le h1 hS.1) (fun z => h2 (hF q z))]; exact hS.2.1 q h1 h2, fun q hq => by
      rcases List.mem_append.mp hq with h | h
      · exact hS.2.2 q h
      · exact hF _ (hL q h)⟩ hl T' rfl X'
  exact ⟨t2, st t2 a1, b1⟩
section WCALLS
variable {G : gT} {X : xT} {k n : Nat} {ws wc : va_W} {lv : List (Option Value)} {pc : Nat} {st st0 rest : List Value} {cc : ByteArray} {own : String} {Ts : List Cond} {nL : Nat} {rm rm' : Room} {P : Option Value → va_W → Prop} {β : Type} {o : β}
/-- a call that makes nothing: its cells are put back in their places -/
theorem w_call (hX : Ok G X cc own Ts nL rm) (isC : List Nat) (hr : Runs G X k n ws lv pc st0 rest rm' wc P) (hC : isC.map (fun i => ws[i]?) = wc.map some) (h0 : rm'.cells = 0 ∧ rm'.slots = 0)
    (kk : ∀ v w1, P v w1 → w1.map Prod.fst = wc.map Prod.fst ∧ WW G X k n (putL ws isC w1) lv (pc + 3) (v.toList ++ rest)) : WW G X k n ws lv pc st0 := by
  refine w_callG hX hr isC hC (fun v w1 hp => ?_)
  obtain ⟨h1, h2⟩ := kk v w1 hp
  refine ⟨w1, [], (List.append_nil _).symm, h1, ?_⟩
  rw [List.append_nil, h0.1, h0.2]
  exact h2
/-- a call that changes nothing -/
theorem w_callp {v0 : Option Value} (hX : Ok G X cc own Ts nL rm) (isC : List Nat) (hr : Runs G X k n ws lv pc st0 rest rm' wc (fun v w => v = v0 ∧ w = wc)) (hC : isC.map (fun i => ws[i]?) = wc.map some) (h0 : rm'.cells = 0 ∧ rm'.slots = 0)
    (kk : WW G X k n ws lv (pc + 3) (v0.toList ++ rest)) : WW G X k n ws lv pc st0 := by
  refine w_call hX isC hr hC h0 (fun v w1 hp => ?_)
  obtain ⟨rfl, rfl⟩ := hp
  exact ⟨rfl, by rw [putL_self isC w1 ws hC]; exact kk⟩
/-- a call with one answer and one world behind it -/
theorem w_calld {v0 : Option Value} {w0 : va_W} (hX : Ok G X cc own Ts nL rm) (isC : List Nat) (hr : Runs G X k n ws lv pc st0 rest rm' wc (fun v w => v = v0 ∧ w = w0)) (hC : isC.map (fun i => ws[i]?) = wc.map some) (hf : w0.map Prod.fst = wc.map Prod.fst) (h0 : rm'.cells = 0 ∧ rm'.slots = 0)
    (kk : WW G X k n (putL ws isC w0) lv (pc + 3) (v0.toList ++ rest)) : WW G X k n ws lv pc st0 := by
  refine w_call hX isC hr hC h0 (fun v w1 hp => ?_)
  obtain ⟨rfl, rfl⟩ := hp
  exact ⟨hf, kk⟩
/-- the same, with the answer on the stack and the new world named -/
theorem w_callpi {v : Int32} (hX : Ok G X cc own Ts nL rm) (isC : List Nat) (hr : Runs G X k n ws lv pc st0 rest rm' wc (fun r w => r = some (.int v) ∧ w = wc)) (hC : isC.map (fun i => ws[i]?) = wc.map some) (h0 : rm'.cells = 0 ∧ rm'.slots = 0)
    (kk : WW G X k n ws lv (pc + 3) (.int v :: rest)) : WW G X k n ws lv pc st0 := w_callp hX isC hr hC h0 kk
theorem w_callpv (hX : Ok G X cc own Ts nL rm) (isC : List Nat) (hr : Runs G X k n ws lv pc st0 rest rm' wc (fun r w => r = none ∧ w = wc)) (hC : isC.map (fun i => ws[i]?) = wc.map some) (h0 : rm'.cells = 0 ∧ rm'.slots = 0)
    (kk : WW G X k n ws lv (pc + 3) rest) : WW G X k n ws lv pc st0 := w_callp hX isC hr hC h0 kk
theorem w_calldi {v : Int32} {w0 ws' : va_W} {os : List (Option Nat)} (N : Nat) (hX : Ok G X cc own Ts nL rm) (isC : List Nat) (hr : Runs G X k n ws lv pc st0 rest rm' wc (fun r w => r = some (.int v) ∧ w = w0)) (hC : isC.map (fun i => ws[i]?) = wc.map some) (hf : w0.map Prod.fst = wc.map Prod.fst) (hN : ws.length = N) (ho : os = (List.range N).map (ixo isC)) (hw : putO ws os w0 = ws') (h0 : rm'.cells = 0 ∧ rm'.slots = 0)
    (kk : WW G X k n ws' lv (pc + 3) (.int v :: rest)) : WW G X k n ws lv pc st0 := w_calld hX isC hr hC hf h0 (by
  rw [putL_putO hN ho (by have h1 := map_len hC; have h2 := congrArg List.length hf; simp only [List.length_map] at h2; omega), hw]; exact kk)
theorem w_calldv {w0 ws' : va_W} {os : List (Option Nat)} (N : Nat) (hX : Ok G X cc own Ts nL rm) (isC : List Nat) (hr : Runs G X k n ws lv pc st0 rest rm' wc (fun r w => r = none ∧ w = w0)) (hC : isC.map (fun i => ws[i]?) = wc.map some) (hf : w0.map Prod.fst = wc.map Prod.fst) (hN : ws.length = N) (ho : os = (List.range N).map (ixo isC)) (hw : putO ws os w0 = ws') (h0 : rm'.cells = 0 ∧ rm'.slots = 0)
    (kk : WW G X k n ws' lv (pc + 3) rest) : WW G X k n ws lv pc st0 := w_calld hX isC hr hC hf h0 (by
  rw [putL_putO hN ho (by have h1 := map_len hC; have h2 := congrArg List.length hf; simp only [List.length_map] at h2; omega), hw]; exact kk)
theorem w_jn {σ γ : Type} {K : σ → Option γ} {B : (σ → Option γ) → Option γ} {o : γ} {Goal : Prop} {T : σ → Prop} (hm : jn K B = some o) (hj : ∀ a, K a = some o → T a) (kk : ∀ j : σ → Option γ, (∀ a, j a = some o → T a) → B j = some o → Goal) : Goal := kk K hj hm
theorem pc_blind {av : List Value} {sz : Nat} {ws : va_W} : FrameBlind (va_Pc av (fun U => U.heap.size = sz ∧ va_P G.1 vwCl ws U.heap ∧ KK G U ∧ va_D (fun _ => True) ws)) := fun a U g mk q => by
  obtain ⟨q0, q1, qP, qK, qD⟩ := q
  exact ⟨q0, q1, qP, KK.same (u := U) (U := U.calling g mk a) rfl qK, qD⟩
variable {y : MethodName} {wy wy' : List Cond} {bytes : ByteArray} {maxL : Nat} {ret : Option FieldType} {index : Nat} {As : List Value} {b : Nat}
theorem runV {C : String} {ci : Nat} {T : u_T} {N : Nat} {fs : List Value} (hX : Ok G X cc own Ts nL rm) (isC : List Nat) (hct : CT G y wy rm' (.ref b :: As) wc P) (hd : decode cc pc = .ok (.invokevirtual index, 3)) (nA : Nat) (hg : GoodIn Ts (wsV own index C y wy)) (hw : wy = Cond.code y bytes maxL ret :: wy') (hy : y.cls = C ∧ y.cls ≠ "java/lang/invoke/MethodHandle" ∧ y.cls ≠ "java/lang/invoke/VarHandle" ∧ (parseMethodDescriptor y.desc).map (fun d => d.parameters.length) = some nA)
    (hR : rm'.frames + 1 ≤ rm.frames ∧ 8 + (maxL + 11) + rm'.locals ≤ rm.locals) (q0 : Nat) (he : ws[q0]? = some (b, .inr (ci, fs))) (hc : vwCl[ci]? = some (C, T, N)) (hn : As.length = nA) (hst : st0 = As.reverse ++ .ref b :: rest) (hcat : (rest.map fun v => v.category).sum ≤ 8) (hcap : k + rm'.cells ≤ rm.cells ∧ n + rm'.slots ≤ rm.slots) (hC : isC.map (fun i => ws[i]?) = wc.map some) (hnd : va_nd isC = true) : Runs G X k n ws lv pc st0 rest rm' wc P := by
  obtain ⟨p, l, e, R, s, m, args, below, meth, c, H0, A, Q, nL'⟩ := X
  obtain ⟨hx, hb, hml, hnl, hown, hts, hK, hA, hlk, hRm⟩ := hX
  intro H locs ls hP hD hS hl
  have hnl : nL' = nL := hnl
  subst hnl
  have hRm : R = rm := hRm
  subst hRm
  have hPc := hP.sub isC (map_fm hC)
  have hDc := hD.sub isC hnd hC
  exact ⟨_, va_runV (As := As) (rest := rest) (g := F0 m pc ls st0) ⟨hx, hb, hml, hown, hts⟩ (hct l H.size) (cwV nA hts hg hw rfl rfl hy hR) ⟨pc_blind, va_recv hK.1 hP hc he, fun U hU hW => ⟨rfl, by rw [hU], by rw [hU]; exact hPc, hK.warm hW, hDc.weaken (fun _ _ _ _ => trivial)⟩⟩ rfl hn hl.1 hst (lv_room hcat) hd hcap⟩
theorem runS (hX : Ok G X cc own Ts nL rm) (isC : List Nat) (hct : CT G y wy rm' As wc P) (hd : decode cc pc = .ok (.invokestatic index, 3)) (nA : Nat) (hg : GoodIn Ts (va_wsS own index y wy)) (hw : wy = Cond.code y bytes maxL ret :: wy') (hy : y.cls ≠ "java/lang/invoke/MethodHandle" ∧ y.cls ≠ "java/lang/invoke/VarHandle" ∧ (parseMethodDescriptor y.desc).map (fun d => d.parameters.length) = some nA)
    (hR : rm'.frames + 1 ≤ rm.frames ∧ 8 + (maxL + 11) + rm'.locals ≤ rm.locals) (hn : As.length = nA) (hst : st0 = As.reverse ++ rest) (hcat : (rest.map fun v => v.category).sum ≤ 8) (hcap : k + rm'.cells ≤ rm.cells ∧ n + rm'.slots ≤ rm.slots) (hC : isC.map (fun i => ws[i]?) = wc.map some) (hnd : va_nd isC = true) : Runs G X k n ws lv pc st0 rest rm' wc P := by
  obtain ⟨p, l, e, R, s, m, args, below, meth, c, H0, A, Q, nL'⟩ := X
  obtain ⟨hx, hb, hml, hnl, hown, hts, hK, hA, hlk, hRm⟩ := hX
  intro H locs ls hP hD hS hl
  have hnl : nL' = nL := hnl
  subst hnl
  have hRm : R = rm := hRm
  subst hRm
  have hPc := hP.sub isC (map_fm hC)
  have hDc := hD.sub isC hnd hC
  exact ⟨_, va_runS (As := As) (rest := rest) (g := F0 m pc ls st0) ⟨hx, hb, hml, hown, hts⟩ (hct l H.size) (va_cwS nA hts hg hw rfl rfl hy hR) ⟨pc_blind, fun U hU hW => ⟨rfl, by rw [hU], by rw [hU]; exact hPc, hK.warm hW, hDc.weaken (fun _ _ _ _ => trivial)⟩⟩ rfl hn hl.1 hst (lv_room hcat) hd hcap⟩
theorem runSN (hX : Ok G X cc own Ts nL rm) (isC : List Nat) (hct : CT G y wy rm' As wc P) (hd : decode cc pc = .ok (.invokestatic index, 3)) (nA : Nat) (hg : GoodIn Ts wy) (hw : wy = Cond.code y bytes maxL ret :: wy') (hnq : (own, index, y, "PortraitMazes") ∈ nsq) (hsi : Cond.static y ∈ Ts ∧ Cond.initialized y.cls ∈ Ts) (hy : y.cls ≠ "java/lang/invoke/MethodHandle" ∧ y.cls ≠ "java/lang/invoke/VarHandle" ∧ (parseMethodDescriptor y.desc).map (fun d => d.parameters.length) = some nA)
    (hR : rm'.frames + 1 ≤ rm.frames ∧ 8 + (maxL + 11) + rm'.locals ≤ rm.locals) (hn : As.length = nA) (hst : st0 = As.reverse ++ rest) (hcat : (rest.map fun v => v.category).sum ≤ 8) (hcap : k + rm'.cells ≤ rm.cells ∧ n + rm'.slots ≤ rm.slots) (hC : isC.map (fun i => ws[i]?) = wc.map some) (hnd : va_nd isC = true) : Runs G X k n ws lv pc st0 rest rm' wc P := by
  obtain ⟨p, l, e, R, s, m, args, below, meth, c, H0, A, Q, nL'⟩ := X
  obtain ⟨hx, hb, hml, hnl, hown, hts, hK, hA, hlk, hRm⟩ := hX
  intro H locs ls hP hD hS hl
  have hnl : nL' = nL := hnl
  subst hnl
  have hRm : R = rm := hRm
  subst hRm
  have hPc := hP.sub isC (map_fm hC)
  have hDc := hD.sub isC hnd hC
  exact ⟨_, va_runSN (As := As) (rest := rest) (g := F0 m pc ls st0) ⟨hx, hb, hml, hown, hts⟩ (hct l H.size) ⟨va_cnB nA hts hg hw rfl rfl (hK.2 _ hnq).1 (hts _ hsi.2) hy hR, hts _ hsi.1, trivial⟩ ⟨pc_blind, fun U hU hW => ⟨rfl, by rw [hU], by rw [hU]; exact hPc, hK.warm hW, hDc.weaken (fun _ _ _ _ => trivial)⟩⟩ rfl hn hl.1 hst (lv_room hcat) hd hcap⟩
theorem runI (hX : Ok G X cc own Ts nL rm) (isC : List Nat) (hct : CT G y wy rm' (.ref b :: As) wc P) (hd : decode cc pc = .ok (.invokespecial index, 3)) (nA : Nat) (hg : GoodIn Ts wy) (hw : wy = Cond.code y bytes maxL none :: wy') (hsi : Cond.initialized y.cls ∈ Ts ∧ Cond.methodLink own index y ∈ Ts ∧ Cond.instanceMethod y ∈ Ts) (hnm : y.name = "<init>") (hy : y.cls ≠ "java/lang/invoke/MethodHandle" ∧ y.cls ≠ "java/lang/invoke/VarHandle" ∧ (parseMethodDescriptor y.desc).map (fun d => d.parameters.length) = some nA)
    (hR : rm'.frames + 1 ≤ rm.frames ∧ 8 + (maxL + 11) + rm'.locals ≤ rm.locals) (hn : As.length = nA) (hst : st0 = As.reverse ++ .ref b :: rest) (hcat : (rest.map fun v => v.category).sum ≤ 8) (hcap : k + rm'.cells ≤ rm.cells ∧ n + rm'.slots ≤ rm.slots) (hC : isC.map (fun i => ws[i]?) = wc.map some) (hnd : va_nd isC = true) : Runs G X k n ws lv pc st0 rest rm' wc P := by
  obtain ⟨p, l, e, R, s, m, args, below, meth, c, H0, A, Q, nL'⟩ := X
  obtain ⟨hx, hb, hml, hnl, hown, hts, hK, hA, hlk, hRm⟩ := hX
  intro H locs ls hP hD hS hl
  have hnl : nL' = nL := hnl
  subst hnl
  have hRm : R = rm := hRm
  subst hRm
  have hPc := hP.sub isC (map_fm hC)
  have hDc := hD.sub isC hnd hC
  exact ⟨_, va_runI (As := As) (rest := rest) (g := F0 m pc ls st0) ⟨hx, hb, hml, hown, hts⟩ (hct l H.size) (cwI nA hts hg hw rfl rfl (hts _ hsi.1) (hts _ hsi.2.1) (hts _ hsi.2.2) hnm hy hR) ⟨pc_blind, fun U hU hW => ⟨rfl, by rw [hU], by rw [hU]; exact hPc, hK.warm hW, hDc.weaken (fun _ _ _ _ => trivial)⟩⟩ rfl hn hl.1 hst (lv_room hcat) hd hcap⟩
theorem runIN (hX : Ok G X cc own Ts nL rm) (isC : List Nat) (hct : CT G y wy rm' (.ref b :: As) wc P) (hd : decode cc pc = .ok (.invokespecial index, 3)) (nA : Nat) (hg : GoodIn Ts wy) (hw : wy = Cond.code y bytes maxL none :: wy') (hnq : (own, index, y, "PortraitMazes") ∈ nsq) (hsi : Cond.initialized y.cls ∈ Ts ∧ Cond.instanceMethod y ∈ Ts) (hnm : y.name = "<init>") (hy : y.cls ≠ "java/lang/invoke/MethodHandle" ∧ y.cls ≠ "java/lang/invoke/VarHandle" ∧ (parseMethodDescriptor y.desc).map (fun d => d.parameters.length) = some nA)
    (hR : rm'.frames + 1 ≤ rm.frames ∧ 8 + (maxL + 11) + rm'.locals ≤ rm.locals) (hn : As.length = nA) (hst : st0 = As.reverse ++ .ref b :: rest) (hcat : (rest.map fun v => v.category).sum ≤ 8) (hcap : k + rm'.cells ≤ rm.cells ∧ n + rm'.slots ≤ rm.slots) (hC : isC.map (fun i => ws[i]?) = wc.map some) (hnd : va_nd isC = true) : Runs G X k n ws lv pc st0 rest rm' wc P := by
  obtain ⟨p, l, e, R, s, m, args, below, meth, c, H0, A, Q, nL'⟩ := X
  obtain ⟨hx, hb, hml, hnl, hown, hts, hK, hA, hlk, hRm⟩ := hX
  intro H locs ls hP hD hS hl
  have hnl : nL' = nL := hnl
  subst hnl
  have hRm : R = rm := hRm
  subst hRm
  have hPc := hP.sub isC (map_fm hC)
  have hDc := hD.sub isC hnd hC
  exact ⟨_, va_runIN (As := As) (rest := rest) (g := F0 m pc ls st0) ⟨hx, hb, hml, hown, hts⟩ (hct l H.size) ⟨va_cnB nA hts hg hw rfl rfl (hK.2 _ hnq).1 (hts _ hsi.1) hy hR, hnm, hts _ hsi.2⟩ ⟨pc_blind, fun U hU hW => ⟨rfl, by rw [hU], by rw [hU]; exact hPc, hK.warm hW, hDc.weaken (fun _ _ _ _ => trivial)⟩⟩ rfl hn hl.1 hst (lv_room hcat) hd hcap⟩
theorem w_objInit {a : Nat} (hX : Ok G X cc own Ts nL rm) (hd : decode cc pc = .ok (.invokespecial index, 3)) (h1 : Cond.methodLink own index objectInit ∈ Ts) (h2 : Cond.instanceMethod objectInit ∈ Ts) (h3 : Cond.code objectInit ⟨#[0xb1]⟩ 1 none ∈ Ts) (hR : 1 ≤ rm.frames) (hL : (st.map fun v => v.category).sum + 12 ≤ rm.locals) (kk : WW G X k n ws lv (pc + 3) st) : WW G X k n ws lv pc (.ref a :: st) := by
  obtain ⟨p, l, e, R, s, m, args, below, meth, c, H0, A, Q, nL'⟩ := X
  obtain ⟨hx, hb, hml, hnl, hown, hts, hK, hA, hlk, hRm⟩ := hX
  intro H locs ls hP hD hS hl
  have hnl : nL' = nL := hnl
  subst hnl
  have hRm : R = rm := hRm
  subst hRm
  exact W.objInit hx hb hown (hts _ h1) (hts _ h2) (hts _ h3) rfl (by rw [hml]; exact hl.1) rfl hd hR (by show 2 * 0 + _ + 12 ≤ _; omega) (kk H locs ls hP hD hS hl)
theorem w_mmax {x z : Int32} (hX : Ok G X cc own Ts nL rm) (hd : decode cc pc = .ok (.invokestatic index, 3)) (h1 : Cond.methodLink own index Lib.Math.max.name ∈ Ts) (h2 : Cond.static Lib.Math.max.name ∈ Ts) (h3 : Cond.initialized "java/lang/Math" ∈ Ts) (h4 : Cond.code Lib.Math.max.name Lib.Math.max.code 2 (some .int) ∈ Ts) (hR : 1 ≤ rm.frames) (hL : (st.map fun v => v.category).sum + 13 ≤ rm.locals) (hc : k ≤ rm.cells ∧ n ≤ rm.slots) (kk : WW G X k n ws lv (pc + 3) (.int (if x < z then z else x) :: st)) : WW G X k n ws lv pc (.int z :: .int x :: st) := by
  obtain ⟨p, l, e, R, s, m, args, below, meth, c, H0, A, Q, nL'⟩ := X
  obtain ⟨hx, hb, hml, hnl, hown, hts, hK, hA, hlk, hRm⟩ := hX
  intro H locs ls hP hD hS hl
  have hnl : nL' = nL := hnl
  subst hnl
  have hRm : R = rm := hRm
  subst hRm
  exact va_mmax hx hb (by rw [hml]; exact hl.1.symm) hown (hts _ h1) (hts _ h2) (hts _ h3) (hts _ h4) hR hL hc.1 hc.2 hd (kk H locs ls hP hD hS hl)
theorem w_mmin {x z : Int32} (hX : Ok G X cc own Ts nL rm) (hd : decode cc pc = .ok (.invokestatic index, 3)) (h1 : Cond.methodLink own index Lib.Math.min.name ∈ Ts) (h2 : Cond.static Lib.Math.min.name ∈ Ts) (h3 : Cond.initialized "java/lang/Math" ∈ Ts) (h4 : Cond.code Lib.Math.min.name Lib.Math.min.code 2 (some .int) ∈ Ts) (hR : 1 ≤ rm.frames) (hL : (st.map fun v => v.category).sum + 13 ≤ rm.locals) (hc : k ≤ rm.cells ∧ n ≤ rm.slots) (kk : WW G X k n ws lv (pc + 3) (.int (if z < x then z else x) :: st)) : WW G X k n ws lv pc (.int z :: .int x :: st) := by
  obtain ⟨p, l, e, R, s, m, args, below, meth, c, H0, A, Q, nL'⟩ := X
  obtain ⟨hx, hb, hml, hnl, hown, hts, hK, hA, hlk, hRm⟩ := hX
  intro H locs ls hP hD hS hl
  have hnl : nL' = nL := hnl
  subst hnl
  have hRm : R = rm := hRm
  subst hRm
  exact va_mmin hx hb (by rw [hml]; exact hl.1.symm) hown (hts _ h1) (hts _ h2) (hts _ h3) (hts _ h4) hR hL hc.1 hc.2 hd (kk H locs ls hP hD hS hl)
theorem w_mabs {x : Int32} (hX : Ok G X cc own Ts nL rm) (hd : decode cc pc = .ok (.invokestatic index, 3)) (h1 : Cond.methodLink own index Lib.Math.abs.name ∈ Ts) (h2 : Cond.static Lib.Math.abs.name ∈ Ts) (h3 : Cond.initialized "java/lang/Math" ∈ Ts) (h4 : Cond.code Lib.Math.abs.name Lib.Math.abs.code 1 (some .int) ∈ Ts) (hR : 1 ≤ rm.frames) (hL : (st.map fun v => v.category).sum + 13 ≤ rm.locals) (hc : k ≤ rm.cells ∧ n ≤ rm.slots) (kk : WW G X k n ws lv (pc + 3) (.int (if 0 ≤ x then x else 0 - x) :: st)) : WW G X k n ws lv pc (.int x :: st) := by
  obtain ⟨p, l, e, R, s, m, args, below, meth, c, H0, A, Q, nL'⟩ := X
  obtain ⟨hx, hb, hml, hnl, hown, hts, hK, hA, hlk, hRm⟩ := hX
  intro H locs ls hP hD hS hl
  have hnl : nL' = nL := hnl
  subst hnl
  have hRm : R = rm := hRm
  subst hRm
  exact va_mabs hx hb (by rw [hml]; exact hl.1.symm) hown (hts _ h1) (hts _ h2) (hts _ h3) (hts _ h4) hR hL hc.1 hc.2 hd (kk H locs ls hP hD hS hl)
theorem w_iret {v : Int32} {mc ms : Nat} (hX : Ok G X cc own Ts nL rm) (hR : Rt G X (some .int) P mc ms) (hd : decode cc pc = .ok (.ireturn, 1)) (hp : P (some (.int v)) ws) : WW G X mc ms ws lv pc [.int v] := by
  obtain ⟨p, l, e, R, s, m, args, below, meth, c, H0, A, Q, nL'⟩ := X
  obtain ⟨h1, h2, h3, -⟩ := hR
  subst h2
  have h3 : Q = MQ below (CQ G P A) args s mc ms A := h3
  subst h3
  exact fun H locs ls hP hD hS hl => W.iret hX.1 hX.2.1 h1 (fun t ht hW => ⟨⟨_, _, rfl, hp, by rw [ht]; exact hP, hD⟩, hS.F ht⟩) hS.2.2 hd (hlocks := hX.2.2.2.2.2.2.2.2.1)
theorem nar_z {v : Int32} (h : zb v = true) : narrow .boolean (.int v) = .int v := by
  rcases zb_or h with rfl | rfl <;> rfl
theorem fit_z {v : Int32} (h : zb v = true) : fits .boolean (.int v) = true := by
  rcases zb_or h with rfl | rfl <;> rfl
theorem w_zret {v : Int32} {mc ms : Nat} {K : Option β} (hX : Ok G X cc own Ts nL rm) (hR : Rt G X (some .boolean) P mc ms) (hd : decode cc pc = .ok (.ireturn, 1)) (hm : gd (zb v) K = some o) (hp : K = some o → P (some (.int v)) ws) : WW G X mc ms ws lv pc [.int v] := by
  obtain ⟨p, l, e, R, s, m, args, below, meth, c, H0, A, Q, nL'⟩ := X
  obtain ⟨h1, h2, h3, -⟩ := hR
  subst h2
  have h3 : Q = MQ below (CQ G P A) args s mc ms A := h3
  subst h3
  exact fun H locs ls hP hD hS hl => W.zret hX.1 hX.2.1 h1 (nar_z (gd_b hm)) (fun t ht hW => ⟨⟨_, _, rfl, hp (gd_k hm), by rw [ht]; exact hP, hD⟩, hS.F ht⟩) hS.2.2 hd (hlocks := hX.2.2.2.2.2.2.2.2.1)
theorem w_vret {mc ms : Nat} (hX : Ok G X cc own Ts nL rm) (hR : Rt G X none P mc ms) (hd : decode cc pc = .ok (.return_, 1)) (hp : P none ws) : WW G X mc ms ws lv pc [] := by
  obtain ⟨p, l, e, R, s, m, args, below, meth, c, H0, A, Q, nL'⟩ := X
  obtain ⟨h1, h2, h3, -⟩ := hR
  subst h2
  have h3 : Q = MQ below (CQ G P A) args s mc ms A := h3
  subst h3
  exact fun H locs ls hP hD hS hl => W.vret hX.1 hX.2.1 h1 (fun t ht hW => ⟨⟨_, _, rfl, hp, by rw [ht]; exact hP, hD⟩, hS.F ht⟩) hS.2.2 hd (hlocks := hX.2.2.2.2.2.2.2.2.1)
theorem w_aret {v : Value} {mc ms : Nat} {nm : String} (hX : Ok G X cc own Ts nL rm) (hR : Rt G X (some (.object nm)) P mc ms) (hv : v = .null ∨ ∃ a, v = .ref a) (hd : decode cc pc = .ok (.areturn, 1)) (hp : P (some v) ws) : WW G X mc ms ws lv pc [v] := by
  obtain ⟨p, l, e, R, s, m, args, below, meth, c, H0, A, Q, nL'⟩ := X
  obtain ⟨h1, h2, h3, -⟩ := hR
  subst h2
  have h3 : Q = MQ below (CQ G P A) args s mc ms A := h3
  subst h3
  exact fun H locs ls hP hD hS hl => W.aret hX.1 hX.2.1 h1 (Or.inl ⟨_, rfl⟩) hv (fun t ht hW => ⟨⟨_, _, rfl, hp, by rw [ht]; exact hP, hD⟩, hS.F ht⟩) hS.2.2 hd (hlocks := hX.2.2.2.2.2.2.2.2.1)
theorem w_widen {k' n' : Nat} (h1 : k ≤ k') (h2 : n ≤ n') (kk : WW G X k' n' ws lv pc st) : WW G X k n ws lv pc st := by
  obtain ⟨p, l, e, R, s, m, args, below, meth, c, H0, A, Q, nL'⟩ := X
  exact fun H locs ls hP hD hS hl => W.widen h1 h2 (kk H locs ls hP hD hS hl)
/-- fewer known locals -/
def lvs : List (Option Value) → List Bool → List (Option Value)
  | a :: l, true :: m => a :: lvs l m
  | _ :: l, false :: m => none :: lvs l m
  | _, _ => []
theorem lvs_get : ∀ (l : List (Option Value)) (m : List Bool) (i : Nat) (v : Value), (lvs l m)[i]? = some (some v) → l[i]? = some (some v) := by
  intro l
  induction l with
  | nil => intro m i v h; cases m <;> simp [lvs] at h
  | cons a l ih =>
    intro m i v h
    cases m with
    | nil => simp [lvs] at h
    | cons b m =>
      cases b <;> cases i with
      | zero => simp [lvs] at h ⊢; try exact h
      | succ i => exact ih m i v h
theorem w_lvs (m : List Bool) (kk : WW G X k n ws (lvs lv m) pc st) : WW G X k n ws lv pc st := by
  obtain ⟨p, l, e, R, s, mm, args, below, meth, c, H0, A, Q, nL'⟩ := X
  exact fun H locs ls hP hD hS hl => kk H locs ls hP hD hS (lo_sub hl (lvs_get lv m))
theorem ra_eq {U : State} {c1 c2 : ClassId} (h1 : va_RA U c1 .int) (h2 : va_RA U c2 .int) : c1 = c2 := Option.some.inj ((Eq.symm h1).trans h2)
theorem ra_eqz {U : State} {c1 c2 : ClassId} (h1 : va_RA U c1 .boolean) (h2 : va_RA U c2 .boolean) : c1 = c2 := Option.some.inj ((Eq.symm h1).trans h2)
theorem ra_eqo {U : State} {c1 c2 : ClassId} {C : String} (h1 : va_RA U c1 (.object C)) (h2 : va_RA U c2 (.object C)) : c1 = c2 := by
  obtain ⟨_, _, -, -, -, h1⟩ := h1
  obtain ⟨_, _, -, -, -, h2⟩ := h2
  exact Option.some.inj (h1.symm.trans h2)
theorem w_newi {x : Int32} {N : Nat} (hX : Ok G X cc own Ts nL rm) (hd : decode cc pc = .ok (.newarray .int, 2)) (hw : Cond.arrayClass .int ∈ Ts) (hx : ¬ x < 0) (hN : x.toNatClampNeg = N) (hby : N * 4 ≤ 536870912) (hc : k + 1 ≤ rm.cells ∧ n + N ≤ rm.slots) (kk : ∀ q : Nat, WW G X (k + 1) (n + N) (ws ++ [(q, .inl (G.2.1, N, .inl (fun _ => 0)))]) lv (pc + 2) (.ref q :: st)) : WW G X k n ws lv pc (.int x :: st) := by
  obtain ⟨p, l, e, R, s, m, args, below, meth, c, H0, A, Q, nL'⟩ := X
  obtain ⟨hx0, hb, hml, hnl, hown, hts, hK, hA, hlk, hRm⟩ := hX
  have hRm : R = rm := hRm
  subst hRm
  refine fun H locs ls hP hD hS hl => va_newa (atype := .int) (ty := .int) (a0 := (N, .inl (fun _ => 0))) hx0 hb (hts _ hw) rfl hK.1 hP hD hS hA (fun _ => rfl) hx hN hby hc.1 hc.2 hd (fun q cA H1 hK1 hP1 hD1 hS1 => ?_)
  have he := ra_eq (hK1.2 3 (cA, .int) rfl).2 (hK.1.2 0 (G.2.1, .int) rfl).2
  subst he
  exact kk q H1 locs ls hP1 hD1 hS1 hl
theorem w_newz {x : Int32} {N : Nat} (hX : Ok G X cc own Ts nL rm) (hd : decode cc pc = .ok (.newarray .boolean, 2)) (hw : Cond.arrayClass .boolean ∈ Ts) (hx : ¬ x < 0) (hN : x.toNatClampNeg = N) (hby : N * 1 ≤ 536870912) (hc : k + 1 ≤ rm.cells ∧ n + N ≤ rm.slots) (kk : ∀ q : Nat, WW G X (k + 1) (n + N) (ws ++ [(q, .inl (G.2.2.1, N, .inl (fun _ => 0)))]) lv (pc + 2) (.ref q :: st)) : WW G X k n ws lv pc (.int x :: st) := by
  obtain ⟨p, l, e, R, s, m, args, below, meth, c, H0, A, Q, nL'⟩ := X
  obtain ⟨hx0, hb, hml, hnl, hown, hts, hK, hA, hlk, hRm⟩ := hX
  have hRm : R = rm := hRm
  subst hRm
  refine fun H locs ls hP hD hS hl => va_newa (atype := .boolean) (ty := .boolean) (a0 := (N, .inl (fun _ => 0))) hx0 hb (hts _ hw) rfl hK.1 hP hD hS hA (fun _ => rfl) hx hN hby hc.1 hc.2 hd (fun q cA H1 hK1 hP1 hD1 hS1 => ?_)
  have he := ra_eqz (hK1.2 3 (cA, .boolean) rfl).2 (hK.1.2 1 (G.2.2.1, .boolean) rfl).2
  subst he
  exact kk q H1 locs ls hP1 hD1 hS1 hl
theorem w_new {C : String} {T : u_T} {N ci : Nat} {fs : List Value} (hX : Ok G X cc own Ts nL rm) (hd : decode cc pc = .ok (.new index, 3)) (hin : ∀ w ∈ u_ws C T N, w ∈ Ts) (ty : Nat → FieldType) (hty : ∀ k, k < N → parseFieldDescriptor (T k).2.2.1 = some (ty k)) (h1 : Cond.classLink own index C ∈ Ts) (h2 : Cond.instantiable C N ∈ Ts) (h3 : Cond.initialized C ∈ Ts) (hc : vwCl[ci]? = some (C, T, N)) (hfs : ∀ j, j < N → defaultValue (ty j) = vp_V fs j) (hcap : k + 1 ≤ rm.cells ∧ n + N ≤ rm.slots) (kk : ∀ q : Nat, WW G X (k + 1) (n + N) (ws ++ [(q, .inr (ci, fs))]) lv (pc + 3) (.ref q :: st)) : WW G X k n ws lv pc st := by
  obtain ⟨p, l, e, R, s, m, args, below, meth, c, H0, A, Q, nL'⟩ := X
  obtain ⟨hx0, hb, hml, hnl, hown, hts, hK, hA, hlk, hRm⟩ := hX
  have hRm : R = rm := hRm
  subst hRm
  exact fun H locs ls hP hD hS hl => va_new (ci := ci) (fs := fs) (C := C) (T := T) (N := N) hx0 hb hts hin ty hty hown (hts _ h1) (hts _ h2) (hts _ h3) hK.1 hP hD hS hA hc hfs hcap.1 hcap.2 hd (fun q H1 hP1 hD1 hS1 => kk q H1 locs ls hP1 hD1 hS1 hl)
end WCALLS
