/-! BASE: what the models are made of; loops -/
def gd {β : Type} (b : Bool) (k : Option β) : Option β := match b with
  | true => k
  | false => none
def inb (i : Int32) (n : Nat) : Bool := !(decide (i < 0)) && decide (i.toNatClampNeg < n)
def zb (x : Int32) : Bool := decide (x = 0) || decide (x = 1)
def nz (x : Int32) : Bool := !(decide (x = 0))
def jn {κ β : Type} (K : κ) (B : κ → Option β) : Option β := B K
abbrev nF : Type := Nat → Int32
abbrev nQ : Type := Nat → Option Nat
def lpr {σ β : Type} (L : (σ → Option β) → σ → Option β) : Nat → σ → Option β
  | 0, _ => none
  | n + 1, a => L (lpr L n) a
abbrev MZ : Type := Int32 × Int32 × nF × nF × nF × nF
abbrev WY : Type := Int32 × nF × nF × nF × nF
abbrev WK : Type := Int32 × Int32 × nF × nF
abbrev PT : Type := Int32 × Int32 × Int32 × nF × Int32 × Int32 × Int32
abbrev EX : Type := Int32 × Int32 × Int32 × Int32 × Int32 × nF
abbrev BD : Type := nF
abbrev HS : Type := Int32 × Nat × (Nat → MZ)
theorem lpr_to {σ β : Type} {E : Option β → Prop} {L : (σ → Option β) → σ → Option β} (I : Nat → σ → Prop) (m : Nat)
    (hs : ∀ i x, i ≤ m → I i x → (∃ e, E e ∧ ∀ self, L self x = e) ∨ (i < m ∧ ∃ y, I (i + 1) y ∧ ∀ self, L self x = self y)) : ∀ (F i : Nat) (x : σ), I i x → i ≤ m → m < F + i → E (lpr L F x) := by
  intro F
  induction F with
  | zero => intro i x _ h1 h2; omega
  | succ F ih =>
    intro i x hi h1 h2
    show E (L (lpr L F) x)
    rcases hs i x h1 hi with ⟨e, he, hL⟩ | ⟨hm, y, hy, hL⟩
    · rw [hL]; exact he
    · rw [hL]; exact ih (i + 1) y hy (by omega) (by omega)
/-- a loop that returns -/
theorem lpr_r {σ β : Type} {Q : β → Prop} {L : (σ → Option β) → σ → Option β} (I : Nat → σ → Prop) (m : Nat)
    (hs : ∀ i x, i ≤ m → I i x → (∃ r, Q r ∧ ∀ self, L self x = some r) ∨ (i < m ∧ ∃ y, I (i + 1) y ∧ ∀ self, L self x = self y)) {F : Nat} {x : σ} (h0 : I 0 x) (hF : m < F) : ∃ r, Q r ∧ lpr L F x = some r :=
  lpr_to (E := fun e => ∃ r, Q r ∧ e = some r) I m (fun i x h1 h2 => by
    rcases hs i x h1 h2 with ⟨r, q, hL⟩ | h
    · exact Or.inl ⟨some r, ⟨r, q, rfl⟩, hL⟩
    · exact Or.inr h) F 0 x h0 (Nat.zero_le _) (by omega)
/-- a loop that goes on behind it -/
theorem lpr_j {σ β γ : Type} {Q : γ → Prop} {L : (γ → Option β) → (σ → Option β) → σ → Option β} (I : Nat → σ → Prop) (m : Nat)
    (hs : ∀ i x, i ≤ m → I i x → (∃ y, Q y ∧ ∀ j self, L j self x = j y) ∨ (i < m ∧ ∃ y, I (i + 1) y ∧ ∀ j self, L j self x = self y)) {F : Nat} {x : σ} (h0 : I 0 x) (hF : m < F) : ∃ y, Q y ∧ ∀ j, lpr (L j) F x = j y := by
  have key : ∀ (F i : Nat) (x : σ), I i x → i ≤ m → m < F + i → ∃ y, Q y ∧ ∀ j, lpr (L j) F x = j y := by
    intro F
    induction F with
    | zero => intro i x _ h1 h2; omega
    | succ F ih =>
      intro i x hi h1 h2
      rcases hs i x h1 hi with ⟨y, q, hL⟩ | ⟨hm, y, hy, hL⟩
      · exact ⟨y, q, fun j => hL j _⟩
      · obtain ⟨z, q, hz⟩ := ih (i + 1) y hy (by omega) (by omega)
        exact ⟨z, q, fun j => (hL j _).trans (hz j)⟩
  exact key F 0 x h0 (Nat.zero_le _) (by omega)
/-- a loop whose states are known -/
theorem lpr_fn {σ β : Type} {L : (σ → Option β) → σ → Option β} {e : Option β} (st : Nat → σ) (m : Nat) (hs : ∀ i, i < m → ∀ self, L self (st i) = self (st (i + 1))) (he : ∀ self, L self (st m) = e) {F : Nat} (hF : m < F) : lpr L F (st 0) = e := by
  have key : ∀ (F i : Nat), i ≤ m → m < F + i → lpr L F (st i) = e := by
    intro F
    induction F with
    | zero => intro i h1 h2; omega
    | succ F ih =>
      intro i h1 h2
      show L (lpr L F) (st i) = e
      by_cases h : i = m
      · subst h; exact he _
      · rw [hs i (by omega)]; exact ih (i + 1) (by omega) (by omega)
  exact key F 0 (Nat.zero_le _) (by omega)
theorem jn_e {κ β : Type} {K : κ} {B : κ → Option β} : jn K B = B K := rfl
theorem bnd_s {α β : Type} {a : α} {f : α → Option β} : (some a).bind f = f a := rfl
