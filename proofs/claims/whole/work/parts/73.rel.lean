/-! TWO COMPUTATIONS SIDE BY SIDE: the class's run and the model's -/
def Hp2 {α β : Type} (o1 : Option α) (o2 : Option β) (Q : α → β → Prop) : Prop := ∃ a b, o1 = some a ∧ o2 = some b ∧ Q a b
theorem Hp2_iff {α β : Type} {o1 : Option α} {o2 : Option β} {Q : α → β → Prop} : Hp2 o1 o2 Q ↔ Hp o1 (fun a => Hp o2 (fun b => Q a b)) := by
  constructor
  · rintro ⟨a, b, h1, h2, h3⟩; exact ⟨a, h1, b, h2, h3⟩
  · rintro ⟨a, h1, b, h2, h3⟩; exact ⟨a, b, h1, h2, h3⟩
theorem Hp2_some {α β : Type} {a : α} {b : β} {Q : α → β → Prop} : Hp2 (some a) (some b) Q ↔ Q a b := by
  constructor
  · rintro ⟨a', b', h1, h2, h3⟩
    injection h1 with h1
    injection h2 with h2
    subst h1; subst h2; exact h3
  · intro h; exact ⟨a, b, rfl, rfl, h⟩
theorem Hp2_bind {α β α' β' : Type} {o1 : Option α} {o2 : Option β} {f : α → Option α'} {g : β → Option β'} {Q : α' → β' → Prop} (h : Hp2 o1 o2 (fun a b => Hp2 (f a) (g b) Q)) : Hp2 (o1.bind f) (o2.bind g) Q := by
  obtain ⟨a, b, h1, h2, a', b', h3, h4, h5⟩ := h
  exact ⟨a', b', by rw [h1]; exact h3, by rw [h2]; exact h4, h5⟩
theorem Hp2_mono {α β : Type} {o1 : Option α} {o2 : Option β} {Q Q' : α → β → Prop} (h : Hp2 o1 o2 Q) (hq : ∀ a b, Q a b → Q' a b) : Hp2 o1 o2 Q' := by
  obtain ⟨a, b, h1, h2, h3⟩ := h
  exact ⟨a, b, h1, h2, hq a b h3⟩
/-- the left one alone goes on -/
theorem Hp2_l {α β α' : Type} {o1 : Option α} {o2 : Option β} {f : α → Option α'} {Q : α' → β → Prop} (h : Hp o1 (fun a => Hp2 (f a) o2 Q)) : Hp2 (o1.bind f) o2 Q := by
  obtain ⟨a, h1, a', b, h2, h3, h4⟩ := h
  exact ⟨a', b, by rw [h1]; exact h2, h3, h4⟩
/-- the right one alone goes on -/
theorem Hp2_r {α β β' : Type} {o1 : Option α} {o2 : Option β} {g : β → Option β'} {Q : α → β' → Prop} (h : Hp o2 (fun b => Hp2 o1 (g b) Q)) : Hp2 o1 (o2.bind g) Q := by
  obtain ⟨b, h1, a, b', h2, h3, h4⟩ := h
  exact ⟨a, b', h2, by rw [h1]; exact h3, h4⟩
theorem lpN_mono {α β : Type} {f : α → Option (α ⊕ β)} {b : β} : ∀ (N : Nat) (a : α), lpN f N a = some b → ∀ M, N ≤ M → lpN f M a = some b := by
  intro N
  induction N with
  | zero => intro a h; exact absurd h (by simp [lpN])
  | succ N ih =>
    intro a h M hM
    cases M with
    | zero => omega
    | succ M =>
      unfold lpN at h ⊢
      cases hf : f a with
      | none => rw [hf] at h; exact absurd h (by simp)
      | some r =>
        rw [hf] at h
        cases r with
        | inl a' => exact ih a' h M (by omega)
        | inr b' => exact h
/-- two loops, each going its own steps: n bounds what both have left -/
theorem Hp2_lpN {α β γ δ : Type} {f : α → Option (α ⊕ β)} {g : γ → Option (γ ⊕ δ)} {P : Nat → α → γ → Prop} {Q : β → δ → Prop}
    (hs : ∀ n a c, P n a c → (∃ b d, f a = some (.inr b) ∧ g c = some (.inr d) ∧ Q b d) ∨ (∃ a' c' n', n' < n ∧ f a = some (.inl a') ∧ g c = some (.inl c') ∧ P n' a' c') ∨ (∃ a' n', n' < n ∧ f a = some (.inl a') ∧ P n' a' c) ∨ (∃ c' n', n' < n ∧ g c = some (.inl c') ∧ P n' a c')) :
    ∀ (n : Nat) (a : α) (c : γ), P n a c → ∃ b d, lpN f (n + 1) a = some b ∧ lpN g (n + 1) c = some d ∧ Q b d := by
  intro n
  induction n using Nat.strongRecOn with
  | ind n ih =>
    intro a c hP
    rcases hs n a c hP with ⟨b, d, h1, h2, h3⟩ | ⟨a', c', n', hn, h1, h2, h3⟩ | ⟨a', n', hn, h1, h3⟩ | ⟨c', n', hn, h1, h3⟩
    · refine ⟨b, d, ?_, ?_, h3⟩
      · unfold lpN; rw [h1]
      · unfold lpN; rw [h2]
    · obtain ⟨b, d, k1, k2, k3⟩ := ih n' hn a' c' h3
      refine ⟨b, d, ?_, ?_, k3⟩
      · unfold lpN; rw [h1]; exact lpN_mono _ _ k1 _ (by omega)
      · unfold lpN; rw [h2]; exact lpN_mono _ _ k2 _ (by omega)
    · obtain ⟨b, d, k1, k2, k3⟩ := ih n' hn a' c h3
      refine ⟨b, d, ?_, lpN_mono _ _ k2 _ (by omega), k3⟩
      unfold lpN; rw [h1]; exact lpN_mono _ _ k1 _ (by omega)
    · obtain ⟨b, d, k1, k2, k3⟩ := ih n' hn a c' h3
      refine ⟨b, d, lpN_mono _ _ k1 _ (by omega), ?_, k3⟩
      unfold lpN; rw [h1]; exact lpN_mono _ _ k2 _ (by omega)
theorem Hp2_lp {α β γ δ : Type} {f : α → Option (α ⊕ β)} {g : γ → Option (γ ⊕ δ)} (P : Nat → α → γ → Prop) {Q : β → δ → Prop} {n : Nat} {a : α} {c : γ} (h0 : P n a c) (hn : n < 99999)
    (hs : ∀ n a c, P n a c → (∃ b d, f a = some (.inr b) ∧ g c = some (.inr d) ∧ Q b d) ∨ (∃ a' c' n', n' < n ∧ f a = some (.inl a') ∧ g c = some (.inl c') ∧ P n' a' c') ∨ (∃ a' n', n' < n ∧ f a = some (.inl a') ∧ P n' a' c) ∨ (∃ c' n', n' < n ∧ g c = some (.inl c') ∧ P n' a c')) : Hp2 (lp f a) (lp g c) Q := by
  obtain ⟨b, d, k1, k2, k3⟩ := Hp2_lpN hs n a c h0
  exact ⟨b, d, lpN_mono _ _ k1 FU (by unfold FU; omega), lpN_mono _ _ k2 FU (by unfold FU; omega), k3⟩
/-- two loops that count up together -/
theorem Hp2_up {α β γ δ : Type} {f : α → Option (α ⊕ β)} {g : γ → Option (γ ⊕ δ)} {Q : β → δ → Prop} (I : Nat → α → γ → Prop) (i N : Nat) (hN : N < 90000) (hi : i ≤ N) {a : α} {c : γ} (h0 : I i a c)
    (hs : ∀ j a c, i ≤ j → j < N → I j a c → ∃ a' c', f a = some (.inl a') ∧ g c = some (.inl c') ∧ I (j + 1) a' c') (he : ∀ a c, I N a c → ∃ b d, f a = some (.inr b) ∧ g c = some (.inr d) ∧ Q b d) : Hp2 (lp f a) (lp g c) Q := by
  refine Hp2_lp (fun n a c => n ≤ N - i ∧ I (N - n) a c) (n := N - i) ⟨by omega, by rw [show N - (N - i) = i by omega]; exact h0⟩ (by omega) ?_
  rintro n a c ⟨h1, h2⟩
  by_cases hz : n = 0
  · subst hz
    exact Or.inl (he a c h2)
  · obtain ⟨a', c', k1, k2, k3⟩ := hs (N - n) a c (by omega) (by omega) h2
    exact Or.inr (Or.inl ⟨a', c', n - 1, by omega, k1, k2, by omega, by rw [show N - (n - 1) = N - n + 1 by omega]; exact k3⟩)
/-! THE STACKS of an agent: what stands open in its code, the innermost first; a loop (1, turns left as the model counts), a met one (2, the other), a code to go back to (0, the class's step) -/
def ckd : Nat → Int
  | 1 => 13
  | 2 => 15
  | _ => 3
/-- the class's value of an entry -/
def cvl (e : Nat × Nat) : Int := if e.1 = 1 then (e.2 : Int) - 1 else (e.2 : Int)
/-- the model's -/
def mvl (f : Nat → Nat) (e : Nat × Nat) : Int := if e.1 = 0 then (f e.2 : Int) else (e.2 : Int)
/-- the class's frames of agent a hold l -/
def FrC (τ : St) (a : Nat) (l : List (Nat × Nat)) : Prop := τ (40 + 7 * a) 2 = (l.length : Int) ∧ l.length ≤ 64 ∧ ∀ i e, l[i]? = some e → τ (41 + 7 * a) (l.length - 1 - i) = ckd e.1 ∧ τ (42 + 7 * a) (l.length - 1 - i) = cvl e
/-- the model's pile of agent a holds l -/
def FrM (f : Nat → Nat) (τ : St) (a : Nat) (l : List (Nat × Nat)) : Prop := τ 218 a = (l.length : Int) ∧ l.length ≤ 64 ∧ ∀ i e, l[i]? = some e → τ 219 (64 * a + (l.length - 1 - i)) = (e.1 : Int) ∧ τ 220 (64 * a + (l.length - 1 - i)) = mvl f e
/-- the entries of one code's open blocks -/
def Mt (A : Nat) : List Bool → List (Nat × Nat) → List (Nat × Nat) → Prop
  | [], l, r => l = r
  | true :: x, l, r => ∃ v l', l = (1, v) :: l' ∧ 1 ≤ v ∧ v ≤ 95 ∧ Mt A x l' r
  | false :: x, l, r => ∃ v l', l = (2, v) :: l' ∧ v < A ∧ Mt A x l' r
/-- l is a stack with which an agent can be at step p -/
def Stk (A n : Nat) (cx : Nat → List Bool) (cd : Nat → Nat) : Nat → Nat → List (Nat × Nat) → Prop
  | 0, _, _ => False
  | d + 1, p, l => ∃ r, Mt A (cx p) l r ∧ (r = [] ∨ ∃ q r', r = (0, q) :: r' ∧ q < n ∧ cd p < cd q ∧ Stk A n cx cd d q r')
theorem Mt_len {A : Nat} : ∀ (x : List Bool) (l r : List (Nat × Nat)), Mt A x l r → l.length = x.length + r.length := by
  intro x
  induction x with
  | nil =>
    intro l r h
    have h' : l = r := h
    rw [h']; simp
  | cons b x ih =>
    intro l r h
    cases b with
    | true =>
      obtain ⟨v, l', h1, -, -, h2⟩ := h
      have := ih l' r h2
      rw [h1]
      simp only [List.length_cons]
      omega
    | false =>
      obtain ⟨v, l', h1, -, h2⟩ := h
      have := ih l' r h2
      rw [h1]
      simp only [List.length_cons]
      omega
theorem Stk_len {A n : Nat} {cx : Nat → List Bool} {cd : Nat → Nat} (hx : ∀ p, p < n → (cx p).length ≤ 6) (hc : ∀ p, p < n → cd p < 8) : ∀ (d p : Nat) (l : List (Nat × Nat)), p < n → Stk A n cx cd d p l → l.length + 7 * cd p ≤ 55 := by
  intro d
  induction d with
  | zero => intro p l _ h; exact absurd h id
  | succ d ih =>
    rintro p l hp ⟨r, h1, h2⟩
    have e := Mt_len _ _ _ h1
    have h6 := hx p hp
    have h8 := hc p hp
    rcases h2 with rfl | ⟨q, r', rfl, hq, hlt, h3⟩
    · simp only [List.length_nil] at e
      omega
    · have := ih q r' hq h3
      simp only [List.length_cons] at e
      omega
