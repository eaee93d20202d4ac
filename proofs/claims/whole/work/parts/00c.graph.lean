/-! GRAPHS: cells and places of passages; being joined; forests; rooted trees; ways -/
abbrev Op : Type := Nat → Bool
def pA (k : Nat) : Nat := k / 2
def pB (C k : Nat) : Nat := if k % 2 = 0 then k / 2 + 1 else k / 2 + C
def setE (op : Op) (k : Nat) (b : Bool) : Op := fun j => if j = k then b else op j
def adj (C : Nat) (op : Op) (x y : Nat) : Prop := ∃ k, op k = true ∧ ((pA k = x ∧ pB C k = y) ∨ (pA k = y ∧ pB C k = x))
def conn (C : Nat) (op : Op) (x y : Nat) : Prop := ∀ S : Nat → Prop, S x → (∀ u v, adj C op u v → S u → S v) → S y
def forest (C : Nat) (op : Op) : Prop := ∀ k, op k = true → ¬ conn C (setE op k false) (pA k) (pB C k)
section GR
variable {C : Nat} {op op' : Op} {x y z u v : Nat}
theorem adj_sy (h : adj C op x y) : adj C op y x := by
  obtain ⟨k, h1, h2⟩ := h
  exact ⟨k, h1, h2.symm⟩
theorem adj_mo (hm : ∀ k, op k = true → op' k = true) (h : adj C op x y) : adj C op' x y := by
  obtain ⟨k, h1, h2⟩ := h
  exact ⟨k, hm k h1, h2⟩
theorem adj_k {k : Nat} (h : op k = true) : adj C op (pA k) (pB C k) := ⟨k, h, Or.inl ⟨rfl, rfl⟩⟩
theorem conn_rf : conn C op x x := fun _ h _ => h
theorem conn_tr (h1 : conn C op x y) (h2 : conn C op y z) : conn C op x z := fun S hx hs => h2 S (h1 S hx hs) hs
theorem conn_ad (h : adj C op x y) : conn C op x y := fun _ hx hs => hs _ _ h hx
theorem conn_sy (h : conn C op x y) : conn C op y x := h (fun w => conn C op w x) conn_rf (fun _ _ huv hu => conn_tr (conn_ad (adj_sy huv)) hu)
theorem conn_mo (hm : ∀ k, op k = true → op' k = true) (h : conn C op x y) : conn C op' x y := h (fun w => conn C op' x w) conn_rf (fun _ _ huv hu => conn_tr hu (conn_ad (adj_mo hm huv)))
theorem setE_self {k : Nat} {b : Bool} : setE op k b k = b := by simp [setE]
theorem setE_ne {k j : Nat} {b : Bool} (h : j ≠ k) : setE op k b j = op j := by simp [setE, h]
theorem setE_id {k : Nat} {b : Bool} (h : op k = b) : setE op k b = op := by
  funext j
  by_cases hj : j = k
  · subst hj; rw [setE_self, h]
  · rw [setE_ne hj]
theorem setE_setE {k : Nat} {b d : Bool} : setE (setE op k b) k d = setE op k d := by
  funext j
  by_cases hj : j = k
  · subst hj; rw [setE_self, setE_self]
  · rw [setE_ne hj, setE_ne hj, setE_ne hj]
theorem setE_comm {k j : Nat} {b d : Bool} (h : j ≠ k) : setE (setE op k b) j d = setE (setE op j d) k b := by
  funext i
  by_cases hj : i = k
  · subst hj; rw [setE_ne (Ne.symm h), setE_self, setE_self]
  · by_cases hi : i = j
    · subst hi; rw [setE_self, setE_ne hj, setE_self]
    · rw [setE_ne hi, setE_ne hj, setE_ne hj, setE_ne hi]
theorem del_mo {k : Nat} : ∀ j, setE op k false j = true → op j = true := by
  intro j h
  by_cases hj : j = k
  · subst hj; rw [setE_self] at h; cases h
  · rwa [setE_ne hj] at h
theorem ins_mo {k : Nat} : ∀ j, op j = true → setE op k true j = true := by
  intro j h
  by_cases hj : j = k
  · subst hj; rw [setE_self]
  · rwa [setE_ne hj]
theorem conn_ins {k : Nat} (h : conn C (setE op k true) x y) : conn C op x y ∨ (conn C op x (pA k) ∧ conn C op (pB C k) y) ∨ (conn C op x (pB C k) ∧ conn C op (pA k) y) := by
  refine h (fun w => conn C op x w ∨ (conn C op x (pA k) ∧ conn C op (pB C k) w) ∨ (conn C op x (pB C k) ∧ conn C op (pA k) w)) (Or.inl conn_rf) ?_
  intro u v huv hu
  obtain ⟨j, h1, h2⟩ := huv
  by_cases hj : j = k
  · subst hj
    rcases h2 with ⟨rfl, rfl⟩ | ⟨rfl, rfl⟩
    · rcases hu with a | ⟨a, _⟩ | ⟨a, _⟩
      · exact Or.inr (Or.inl ⟨a, conn_rf⟩)
      · exact Or.inr (Or.inl ⟨a, conn_rf⟩)
      · exact Or.inl a
    · rcases hu with a | ⟨a, _⟩ | ⟨a, _⟩
      · exact Or.inr (Or.inr ⟨a, conn_rf⟩)
      · exact Or.inl a
      · exact Or.inr (Or.inr ⟨a, conn_rf⟩)
  · rw [setE_ne hj] at h1
    have ha : conn C op u v := conn_ad ⟨j, h1, h2⟩
    rcases hu with a | ⟨a, b⟩ | ⟨a, b⟩
    · exact Or.inl (conn_tr a ha)
    · exact Or.inr (Or.inl ⟨a, conn_tr b ha⟩)
    · exact Or.inr (Or.inr ⟨a, conn_tr b ha⟩)
theorem conn_ins_iff {k : Nat} : conn C (setE op k true) x y ↔ conn C op x y ∨ (conn C op x (pA k) ∧ conn C op (pB C k) y) ∨ (conn C op x (pB C k) ∧ conn C op (pA k) y) := by
  refine ⟨conn_ins, ?_⟩
  have hk : conn C (setE op k true) (pA k) (pB C k) := conn_ad (adj_k setE_self)
  have m : ∀ {a b : Nat}, conn C op a b → conn C (setE op k true) a b := fun h => conn_mo ins_mo h
  rintro (a | ⟨a, b⟩ | ⟨a, b⟩)
  · exact m a
  · exact conn_tr (m a) (conn_tr hk (m b))
  · exact conn_tr (m a) (conn_tr (conn_sy hk) (m b))
theorem forest_sub (hm : ∀ k, op k = true → op' k = true) (h : forest C op') : forest C op := by
  intro k hk hc
  refine h k (hm k hk) (conn_mo (fun j hj => ?_) hc)
  by_cases e : j = k
  · subst e; rw [setE_self] at hj; cases hj
  · rw [setE_ne e] at hj ⊢; exact hm j hj
theorem forest_del {k : Nat} (h : forest C op) : forest C (setE op k false) := forest_sub del_mo h
theorem forest_ins {k : Nat} (h : forest C op) (hn : ¬ conn C op (pA k) (pB C k)) : forest C (setE op k true) := by
  intro f hf hc
  by_cases e : f = k
  · subst e
    rw [setE_setE] at hc
    exact hn (conn_mo del_mo hc)
  · rw [setE_ne e] at hf
    rw [setE_comm e] at hc
    have hfe : conn C op (pA f) (pB C f) := conn_ad (adj_k hf)
    rcases conn_ins hc with a | ⟨a, b⟩ | ⟨a, b⟩
    · exact h f hf a
    · exact hn (conn_tr (conn_sy (conn_mo del_mo a)) (conn_tr hfe (conn_sy (conn_mo del_mo b))))
    · exact hn (conn_tr (conn_mo del_mo b) (conn_tr (conn_sy hfe) (conn_mo del_mo a)))
/-- how many places below n are open -/
def cnt (op : Op) : Nat → Nat
  | 0 => 0
  | n + 1 => cnt op n + (if op n = true then 1 else 0)
theorem cnt_del {k n : Nat} (hk : op k = true) : cnt (setE op k false) n + (if k < n then 1 else 0) = cnt op n := by
  induction n with
  | zero => simp [cnt]
  | succ n ih =>
    simp only [cnt]
    by_cases e : n = k
    · subst e
      rw [setE_self, hk]
      simp at ih ⊢
      omega
    · rw [setE_ne e]
      by_cases h : k < n
      · rw [if_pos h] at ih; rw [if_pos (show k < n + 1 by omega)]; omega
      · rw [if_neg h] at ih; rw [if_neg (show ¬ k < n + 1 by omega)]; omega
theorem cnt_ins {k n : Nat} (hk : op k = false) (hn : k < n) : cnt (setE op k true) n = cnt op n + 1 := by
  have h := cnt_del (op := setE op k true) (k := k) (n := n) setE_self
  rw [setE_setE, setE_id hk, if_pos hn] at h
  omega
theorem cnt_0 {n : Nat} (h : cnt op n = 0) : ∀ k, k < n → op k = false := by
  induction n with
  | zero => intro k hk; omega
  | succ n ih =>
    simp only [cnt] at h
    intro k hk
    by_cases e : k = n
    · subst e
      cases ho : op k with
      | false => rfl
      | true => rw [if_pos ho] at h; omega
    · exact ih (by omega) k (by omega)
theorem cnt_pos {n : Nat} (h : cnt op n ≠ 0) : ∃ k, k < n ∧ op k = true := by
  induction n with
  | zero => exact absurd rfl h
  | succ n ih =>
    simp only [cnt] at h
    by_cases e : op n = true
    · exact ⟨n, by omega, e⟩
    · rw [if_neg e] at h
      obtain ⟨k, a, b⟩ := ih (by omega)
      exact ⟨k, by omega, b⟩
/-- open places lie in the grid -/
def inG (N C : Nat) (op : Op) : Prop := ∀ k, op k = true → k < 2 * N ∧ pA k < N ∧ pB C k < N
theorem inG_del {N k : Nat} (h : inG N C op) : inG N C (setE op k false) := fun j hj => h j (del_mo j hj)
theorem inG_ins {N k : Nat} (h : inG N C op) (h1 : k < 2 * N) (h2 : pA k < N) (h3 : pB C k < N) : inG N C (setE op k true) := by
  intro j hj
  by_cases e : j = k
  · subst e; exact ⟨h1, h2, h3⟩
  · rw [setE_ne e] at hj; exact h j hj
theorem adj_lt {N : Nat} (hG : inG N C op) (h : adj C op x y) : x < N ∧ y < N := by
  obtain ⟨k, h1, h2⟩ := h
  obtain ⟨-, a, b⟩ := hG k h1
  rcases h2 with ⟨rfl, rfl⟩ | ⟨rfl, rfl⟩
  · exact ⟨a, b⟩
  · exact ⟨b, a⟩
theorem conn_lt {N : Nat} (hG : inG N C op) (h : conn C op x y) (hx : x < N) : y < N := h (fun w => w < N) hx (fun _ _ huv _ => (adj_lt hG huv).2)
/-- as many parts as cells less passages -/
theorem reps (N : Nat) : ∀ (m : Nat) (op : Op), forest C op → inG N C op → cnt op (2 * N) = m → ∃ l : List Nat, l.Nodup ∧ l.length + m = N ∧ (∀ r ∈ l, r < N) ∧ (∀ x, x < N → ∃ r ∈ l, conn C op x r) ∧ (∀ r ∈ l, ∀ s ∈ l, conn C op r s → r = s) := by
  intro m
  induction m with
  | zero =>
    intro op hF hG hc
    refine ⟨List.range N, List.nodup_range, by simp, fun r hr => List.mem_range.mp hr, fun x hx => ⟨x, List.mem_range.mpr hx, conn_rf⟩, fun r hr s hs h => ?_⟩
    have hno : ∀ u v, ¬ adj C op u v := by
      rintro u v ⟨k, h1, -⟩
      rw [cnt_0 hc k (hG k h1).1] at h1
      cases h1
    exact h (fun w => r = w) rfl (fun u v huv _ => absurd huv (hno u v))
  | succ m ih =>
    intro op hF hG hc
    obtain ⟨k, hk, ho⟩ := cnt_pos (op := op) (n := 2 * N) (by omega)
    have h1 := cnt_del (n := 2 * N) ho
    rw [if_pos hk] at h1
    obtain ⟨l, l1, l2, l3, l4, l5⟩ := ih (setE op k false) (forest_del hF) (inG_del hG) (by omega)
    obtain ⟨-, hA, hB⟩ := hG k ho
    obtain ⟨ra, ra1, ra2⟩ := l4 _ hA
    obtain ⟨rb, rb1, rb2⟩ := l4 _ hB
    have hab : ra ≠ rb := by
      rintro rfl
      exact hF k ho (conn_tr ra2 (conn_sy rb2))
    have hop : setE (setE op k false) k true = op := by rw [setE_setE, setE_id ho]
    have hke : conn C op (pA k) (pB C k) := conn_ad (adj_k ho)
    refine ⟨l.erase rb, l1.erase rb, by rw [List.length_erase_of_mem rb1]; have := List.length_pos_of_mem rb1; omega, fun r hr => l3 r (List.mem_of_mem_erase hr), fun x hx => ?_, fun r hr s hs h => ?_⟩
    · obtain ⟨r, r1, r2⟩ := l4 x hx
      by_cases e : r = rb
      · subst e
        refine ⟨ra, (List.mem_erase_of_ne hab).mpr ra1, ?_⟩
        exact conn_tr (conn_mo del_mo r2) (conn_tr (conn_sy (conn_mo del_mo rb2)) (conn_tr (conn_sy hke) (conn_mo del_mo ra2)))
      · exact ⟨r, (List.mem_erase_of_ne e).mpr r1, conn_mo del_mo r2⟩
    · have hr' := List.mem_of_mem_erase hr
      have hs' := List.mem_of_mem_erase hs
      have hrb : r ≠ rb := fun e => by subst e; exact (List.Nodup.not_mem_erase l1) hr
      have hsb : s ≠ rb := fun e => by subst e; exact (List.Nodup.not_mem_erase l1) hs
      rw [← hop] at h
      rcases conn_ins h with a | ⟨a, b⟩ | ⟨a, b⟩
      · exact l5 r hr' s hs' a
      · exact absurd (l5 s hs' rb rb1 (conn_tr (conn_sy b) rb2)) hsb
      · exact absurd (l5 r hr' rb rb1 (conn_tr a rb2)) hrb
theorem whole_conn {N : Nat} (hF : forest C op) (hG : inG N C op) (hc : cnt op (2 * N) + 1 = N) (hx : x < N) (hy : y < N) : conn C op x y := by
  obtain ⟨l, -, l2, -, l4, -⟩ := reps N _ op hF hG rfl
  have h1 : l.length = 1 := by omega
  obtain ⟨r, r1, r2⟩ := l4 x hx
  obtain ⟨s, s1, s2⟩ := l4 y hy
  match l, h1 with
  | [t], _ =>
    rw [List.mem_singleton] at r1 s1
    subst r1; subst s1
    exact conn_tr r2 (conn_sy s2)
theorem conn_whole {N : Nat} (hF : forest C op) (hG : inG N C op) (hN : 0 < N) (h : ∀ x y, x < N → y < N → conn C op x y) : cnt op (2 * N) + 1 = N := by
  obtain ⟨l, l1, l2, l3, l4, l5⟩ := reps N _ op hF hG rfl
  obtain ⟨r, r1, -⟩ := l4 0 hN
  have : l.length = 1 := by
    match l, l1, l3, l5, r1 with
    | [t], _, _, _, _ => rfl
    | a :: b :: t, l1, l3, l5, _ =>
      have := l5 a (by simp) b (by simp) (h a b (l3 a (by simp)) (l3 b (by simp)))
      subst this
      simp at l1
  omega
theorem cnt_le {N : Nat} (hF : forest C op) (hG : inG N C op) (hN : 0 < N) : cnt op (2 * N) + 1 ≤ N := by
  obtain ⟨l, -, l2, -, l4, -⟩ := reps N _ op hF hG rfl
  obtain ⟨r, r1, -⟩ := l4 0 hN
  have := List.length_pos_of_mem r1
  omega
/-- two places with the same ends are one -/
theorem place_eq (hC : 2 ≤ C) {j k : Nat} (h : (pA j = pA k ∧ pB C j = pB C k) ∨ (pA j = pB C k ∧ pB C j = pA k)) : j = k := by
  unfold pA pB at h
  split at h <;> split at h <;> omega
/-- a tree with its root: what a search from r finds -/
def RT (C : Nat) (op : Op) (r : Nat) (V : Nat → Prop) (len prev : Nat → Nat) : Prop :=
  V r ∧ len r = 0 ∧ (∀ c, V c → c ≠ r → V (prev c) ∧ adj C op (prev c) c ∧ len c = len (prev c) + 1) ∧ ∀ c c', V c → adj C op c c' → V c'
variable {r c c' : Nat} {V : Nat → Prop} {len prev : Nat → Nat}
theorem rt_conn (h : RT C op r V len prev) : V c ↔ conn C op r c := by
  constructor
  · have key : ∀ n c, V c → len c = n → conn C op r c := by
      intro n
      induction n with
      | zero =>
        intro c hc hn
        by_cases e : c = r
        · subst e; exact conn_rf
        · obtain ⟨-, -, h3⟩ := h.2.2.1 c hc e
          omega
      | succ n ih =>
        intro c hc hn
        by_cases e : c = r
        · subst e; exact conn_rf
        · obtain ⟨h1, h2, h3⟩ := h.2.2.1 c hc e
          exact conn_tr (ih (prev c) h1 (by omega)) (conn_ad h2)
    exact fun hc => key _ c hc rfl
  · intro hc
    exact hc V h.1 (fun u v huv hu => h.2.2.2 u v hu huv)
/-- in a forest each open place between found cells leads to the root or from it -/
theorem rt_edge (hC : 2 ≤ C) (hF : forest C op) (h : RT C op r V len prev) (hc : V c) (ha : adj C op c c') : (c ≠ r ∧ prev c = c') ∨ (c' ≠ r ∧ prev c' = c) := by
  apply Classical.byContradiction
  intro hn
  obtain ⟨k, hk, he⟩ := ha
  have hc' : V c' := h.2.2.2 c c' hc ⟨k, hk, he⟩
  have key : ∀ n x, V x → len x = n → conn C (setE op k false) r x := by
    intro n
    induction n with
    | zero =>
      intro x hx hn2
      by_cases e : x = r
      · subst e; exact conn_rf
      · obtain ⟨-, -, h3⟩ := h.2.2.1 x hx e
        omega
    | succ n ih =>
      intro x hx hn2
      by_cases e : x = r
      · subst e; exact conn_rf
      · obtain ⟨h1, ⟨j, hj, hj2⟩, h3⟩ := h.2.2.1 x hx e
        refine conn_tr (ih (prev x) h1 (by omega)) (conn_ad ⟨j, ?_, hj2⟩)
        by_cases ej : j = k
        · subst ej
          exfalso
          apply hn
          rcases he with ⟨a1, a2⟩ | ⟨a1, a2⟩ <;> rcases hj2 with ⟨b1, b2⟩ | ⟨b1, b2⟩
          · exact Or.inr ⟨by rw [← a2, b2]; exact e, by rw [← a2, b2, ← b1, a1]⟩
          · exact Or.inl ⟨by rw [← a1, b1]; exact e, by rw [← a1, b1, ← b2, a2]⟩
          · exact Or.inl ⟨by rw [← a2, b2]; exact e, by rw [← a2, b2, ← b1, a1]⟩
          · exact Or.inr ⟨by rw [← a1, b1]; exact e, by rw [← a1, b1, ← b2, a2]⟩
        · rw [setE_ne ej]; exact hj
  have h1 := key _ c hc rfl
  have h2 := key _ c' hc' rfl
  rcases he with ⟨a1, a2⟩ | ⟨a1, a2⟩
  · exact hF k hk (by rw [a1, a2]; exact conn_tr (conn_sy h1) h2)
  · exact hF k hk (by rw [a1, a2]; exact conn_tr (conn_sy h2) h1)
/-- the way to the root -/
def pth (prev : Nat → Nat) : Nat → Nat → List Nat
  | 0, c => [c]
  | n + 1, c => c :: pth prev n (prev c)
theorem pth_len {n : Nat} : ∀ c, (pth prev n c).length = n + 1 := by
  induction n with
  | zero => intro c; rfl
  | succ n ih => intro c; simp [pth, ih]
theorem pth_head {n : Nat} : (pth prev n c).head? = some c := by cases n <;> rfl
def Wk (C : Nat) (op : Op) : List Nat → Prop
  | x :: y :: l => adj C op x y ∧ Wk C op (y :: l)
  | _ => True
theorem wk_tail {l : List Nat} (h : Wk C op (x :: l)) : Wk C op l := by
  cases l with
  | nil => trivial
  | cons y l => exact h.2
theorem wk_mo (hm : ∀ k, op k = true → op' k = true) : ∀ {l : List Nat}, Wk C op l → Wk C op' l
  | [], _ => trivial
  | [_], _ => trivial
  | _ :: _ :: _, h => ⟨adj_mo hm h.1, wk_mo hm h.2⟩
theorem wk_app : ∀ {l1 l2 : List Nat}, Wk C op l1 → Wk C op l2 → (∀ a b, l1.getLast? = some a → l2.head? = some b → adj C op a b) → Wk C op (l1 ++ l2)
  | [], _, _, h2, _ => h2
  | [a], [], _, _, _ => trivial
  | [a], b :: l2, _, h2, h3 => ⟨h3 a b rfl rfl, h2⟩
  | a :: b :: l1, l2, h1, h2, h3 => ⟨h1.1, wk_app h1.2 h2 (fun x y hx hy => h3 x y (by rw [List.getLast?_cons_cons]; exact hx) hy)⟩
theorem wk_rev : ∀ {l : List Nat}, Wk C op l → Wk C op l.reverse
  | [], _ => trivial
  | [_], _ => trivial
  | a :: b :: l, h => by
    rw [List.reverse_cons]
    refine wk_app (wk_rev h.2) trivial (fun x y hx hy => ?_)
    rw [List.reverse_cons, List.getLast?_append] at hx
    simp at hx hy
    subst hx; subst hy
    exact adj_sy h.1
theorem wk_conn : ∀ {l : List Nat} {c d : Nat}, Wk C op l → l.head? = some c → d ∈ l → conn C op c d
  | [], _, _, _, h, _ => by cases h
  | [a], c, d, _, h, hd => by
    cases h
    rw [List.mem_singleton] at hd
    subst hd
    exact conn_rf
  | a :: b :: l, c, d, h, hh, hd => by
    cases hh
    rcases List.mem_cons.mp hd with e | e
    · subst e; exact conn_rf
    · exact conn_tr (conn_ad h.1) (wk_conn (c := b) h.2 rfl e)
theorem pth_wk (h : RT C op r V len prev) : ∀ n c, V c → len c = n → Wk C op (pth prev n c) := by
  intro n
  induction n with
  | zero => intro c _ _; trivial
  | succ n ih =>
    intro c hc hn
    have e : c ≠ r := by rintro rfl; rw [h.2.1] at hn; cases hn
    obtain ⟨h1, h2, h3⟩ := h.2.2.1 c hc e
    have h4 := ih (prev c) h1 (by omega)
    cases n with
    | zero => exact ⟨adj_sy h2, trivial⟩
    | succ n => exact ⟨adj_sy h2, h4⟩
theorem pth_last (h : RT C op r V len prev) : ∀ n c, V c → len c = n → (pth prev n c).getLast? = some r := by
  intro n
  induction n with
  | zero =>
    intro c hc hn
    by_cases e : c = r
    · subst e; rfl
    · have := (h.2.2.1 c hc e).2.2; omega
  | succ n ih =>
    intro c hc hn
    have e : c ≠ r := by rintro rfl; rw [h.2.1] at hn; cases hn
    obtain ⟨h1, h2, h3⟩ := h.2.2.1 c hc e
    have h4 := ih (prev c) h1 (by omega)
    show (c :: pth prev n (prev c)).getLast? = some r
    rw [List.getLast?_cons, h4]
    rfl
theorem pth_mem (h : RT C op r V len prev) : ∀ n c, V c → len c = n → ∀ d ∈ pth prev n c, V d ∧ len d ≤ n ∧ (d ≠ c → len d < n) := by
  intro n
  induction n with
  | zero =>
    intro c hc hn d hd
    simp only [pth, List.mem_singleton] at hd
    subst hd
    exact ⟨hc, by omega, fun e => absurd rfl e⟩
  | succ n ih =>
    intro c hc hn d hd
    have e : c ≠ r := by rintro rfl; rw [h.2.1] at hn; cases hn
    obtain ⟨h1, h2, h3⟩ := h.2.2.1 c hc e
    rcases List.mem_cons.mp hd with q | q
    · subst q; exact ⟨hc, by omega, fun e => absurd rfl e⟩
    · obtain ⟨a, b, _⟩ := ih (prev c) h1 (by omega) d q
      exact ⟨a, by omega, fun _ => by omega⟩
theorem pth_nd (h : RT C op r V len prev) : ∀ n c, V c → len c = n → (pth prev n c).Nodup := by
  intro n
  induction n with
  | zero => intro c _ _; simp [pth]
  | succ n ih =>
    intro c hc hn
    have e : c ≠ r := by rintro rfl; rw [h.2.1] at hn; cases hn
    obtain ⟨h1, h2, h3⟩ := h.2.2.1 c hc e
    refine List.nodup_cons.mpr ⟨fun hm => ?_, ih (prev c) h1 (by omega)⟩
    have := (pth_mem h n (prev c) h1 (by omega) c hm).2.1
    omega
/-- there is one way without a repetition -/
theorem way_uniq (hC : 2 ≤ C) (hF : forest C op) (h : RT C op r V len prev) : ∀ (l : List Nat) (c : Nat), Wk C op l → l.Nodup → l.head? = some c → V c → l.getLast? = some r → l = pth prev (len c) c := by
  intro l
  induction l with
  | nil => intro c _ _ hh; cases hh
  | cons a t ih =>
    intro c hw hn hh hc hl
    obtain rfl : a = c := by simpa using hh
    cases t with
    | nil =>
      obtain rfl : a = r := by simpa using hl
      rw [h.2.1]
      rfl
    | cons y t =>
      obtain ⟨n1, n2⟩ := List.nodup_cons.mp hn
      have hy : V y := h.2.2.2 _ _ hc hw.1
      have hi := ih y hw.2 n2 rfl hy (by rw [← hl, List.getLast?_cons_cons])
      rcases rt_edge hC hF h hc hw.1 with ⟨e, hp⟩ | ⟨e, hp⟩
      · have h3 := (h.2.2.1 _ hc e).2.2
        rw [h3, hp]
        show _ = _ :: pth prev (len y) (prev _)
        rw [hp, ← hi]
      · have h3 := (h.2.2.1 _ hy e).2.2
        rw [h3] at hi
        have hi : y :: t = y :: pth prev (len (prev y)) (prev y) := hi
        exfalso
        apply n1
        rw [hi]
        refine List.mem_cons_of_mem _ ?_
        rw [hp]
        cases len a <;> simp [pth]
/-- .. and no shorter one -/
theorem way_short (hC : 2 ≤ C) (hF : forest C op) (h : RT C op r V len prev) : ∀ (l : List Nat) (c : Nat), Wk C op l → l.length ≤ len c + 1 → l.head? = some c → V c → l.getLast? = some r → l = pth prev (len c) c := by
  intro l
  induction l with
  | nil => intro c _ _ hh; cases hh
  | cons a t ih =>
    intro c hw hn hh hc hl
    obtain rfl : a = c := by simpa using hh
    cases t with
    | nil =>
      obtain rfl : a = r := by simpa using hl
      rw [h.2.1]
      rfl
    | cons y t =>
      have hy : V y := h.2.2.2 _ _ hc hw.1
      have hll : (y :: t).getLast? = some r := by rw [← hl, List.getLast?_cons_cons]
      rcases rt_edge hC hF h hc hw.1 with ⟨e, hp⟩ | ⟨e, hp⟩
      · have h3 := (h.2.2.1 _ hc e).2.2
        have hi := ih y hw.2 (by rw [hp] at h3; simp only [List.length_cons] at hn ⊢; omega) rfl hy hll
        rw [h3, hp]
        show _ = _ :: pth prev (len y) (prev _)
        rw [hp, ← hi]
      · have h3 := (h.2.2.1 _ hy e).2.2
        rw [hp] at h3
        have hi := ih y hw.2 (by simp only [List.length_cons] at hn ⊢; omega) rfl hy hll
        have h4 := congrArg List.length hi
        rw [pth_len] at h4
        simp only [List.length_cons] at hn h4
        omega
/-- the next cell of the way is the only one that is nearer -/
theorem rt_nearer (hC : 2 ≤ C) (hF : forest C op) (h : RT C op r V len prev) (hc : V c) (ha : adj C op c c') (hl : len c' + 1 = len c) : c ≠ r ∧ prev c = c' := by
  rcases rt_edge hC hF h hc ha with e | ⟨e, hp⟩
  · exact e
  · have h3 := (h.2.2.1 _ (h.2.2.2 _ _ hc ha) e).2.2
    rw [hp] at h3
    omega
/-- two searches from one root agree -/
theorem rt_same {V2 : Nat → Prop} {len2 prev2 : Nat → Nat} (hC : 2 ≤ C) (hF : forest C op) (h : RT C op r V len prev) (h2 : RT C op r V2 len2 prev2) (hc : V c) : V2 c ∧ len c = len2 c ∧ pth prev (len c) c = pth prev2 (len2 c) c := by
  have hv : V2 c := (rt_conn h2).mpr ((rt_conn h).mp hc)
  have e := way_uniq hC hF h2 _ c (pth_wk h _ c hc rfl) (pth_nd h _ c hc rfl) pth_head hv (pth_last h _ c hc rfl)
  have e2 := congrArg List.length e
  rw [pth_len, pth_len] at e2
  exact ⟨hv, by omega, e⟩
theorem nd_rev {l : List Nat} (h : l.Nodup) : l.reverse.Nodup := by
  induction l with
  | nil => simp
  | cons a l ih =>
    obtain ⟨h1, h2⟩ := List.nodup_cons.mp h
    rw [List.reverse_cons, List.nodup_append]
    refine ⟨ih h2, by simp, fun x hx y hy => ?_⟩
    rw [List.mem_singleton] at hy
    rintro rfl
    subst hy
    exact h1 (List.mem_reverse.mp hx)
/-- two searches from two roots: the way back -/
theorem rt_back {x : Nat} {V2 : Nat → Prop} {len2 prev2 : Nat → Nat} (hC : 2 ≤ C) (hF : forest C op) (h : RT C op r V len prev) (h2 : RT C op x V2 len2 prev2) (hc : V x) : V2 r ∧ len x = len2 r ∧ pth prev2 (len2 r) r = (pth prev (len x) x).reverse := by
  have hv : V2 r := (rt_conn h2).mpr (conn_sy ((rt_conn h).mp hc))
  have e := way_uniq hC hF h2 (pth prev (len x) x).reverse r (wk_rev (pth_wk h _ x hc rfl)) (nd_rev (pth_nd h _ x hc rfl)) (by rw [List.head?_reverse]; exact pth_last h _ x hc rfl) hv (by rw [List.getLast?_reverse]; exact pth_head)
  have e2 := congrArg List.length e
  rw [List.length_reverse, pth_len, pth_len] at e2
  exact ⟨hv, by omega, e.symm⟩
/-- joined cells have a way without a repetition -/
theorem conn_way (h : conn C op x y) : ∃ l : List Nat, Wk C op l ∧ l.Nodup ∧ l.head? = some x ∧ l.getLast? = some y := by
  refine h (fun w => ∃ l : List Nat, Wk C op l ∧ l.Nodup ∧ l.head? = some x ∧ l.getLast? = some w) ⟨[x], trivial, by simp, rfl, rfl⟩ ?_
  rintro u v huv ⟨l, h1, h2, h3, h4⟩
  by_cases hv : v ∈ l
  · obtain ⟨s, t, rfl⟩ := List.append_of_mem hv
    refine ⟨s ++ [v], ?_, ?_, ?_, by simp⟩
    · have key : ∀ (s t : List Nat), Wk C op (s ++ v :: t) → Wk C op (s ++ [v]) := by
        intro s t
        induction s with
        | nil => intro _; trivial
        | cons a s ih =>
          intro hw
          cases s with
          | nil => exact ⟨hw.1, trivial⟩
          | cons b s => exact ⟨hw.1, ih hw.2⟩
      exact key s t h1
    · have : (s ++ [v] ++ t).Nodup := by simpa using h2
      exact (List.nodup_append.mp this).1
    · cases s with
      | nil => simpa using h3
      | cons a s => simpa using h3
  · refine ⟨l ++ [v], wk_app h1 trivial (fun a b ha hb => ?_), ?_, ?_, by simp⟩
    · rw [h4] at ha
      cases ha
      simp at hb
      subst hb
      exact huv
    · rw [List.nodup_append]
      refine ⟨h2, by simp, fun a ha b hb => ?_⟩
      simp at hb
      subst hb
      rintro rfl
      exact hv ha
    · cases l with
      | nil => cases h3
      | cons a l => simpa using h3
/-- what the way to the root of a smaller graph is -/
theorem way_sub (hC : 2 ≤ C) (hF : forest C op) (h : RT C op r V len prev) (hm : ∀ k, op' k = true → op k = true) (hc : conn C op' r c) : Wk C op' (pth prev (len c) c) := by
  obtain ⟨l, h1, h2, h3, h4⟩ := conn_way (conn_sy hc)
  have hv : V c := (rt_conn h).mpr (conn_mo hm hc)
  rw [← way_uniq hC hF h l c (wk_mo hm h1) h2 h3 hv h4]
  exact h1
end GR
