/-! SYMBOLIC EXECUTION of the pure functions: Hp o Q says that o is some a with Q a -/
def Hp {α : Type} (o : Option α) (Q : α → Prop) : Prop := ∃ a, o = some a ∧ Q a
theorem Hp_some {α : Type} {a : α} {Q : α → Prop} : Hp (some a) Q ↔ Q a := by simp [Hp]
theorem Hp_none {α : Type} {Q : α → Prop} : Hp none Q ↔ False := by simp [Hp]
theorem Hp_bind {α β : Type} {o : Option α} {f : α → Option β} {Q : β → Prop} : Hp (o.bind f) Q ↔ Hp o (fun a => Hp (f a) Q) := by
  cases o <;> simp [Hp]
theorem Hp_ite {α : Type} {c : Prop} [Decidable c] {x y : Option α} {Q : α → Prop} : Hp (if c then x else y) Q ↔ (c → Hp x Q) ∧ (¬ c → Hp y Q) := by
  by_cases h : c <;> simp [h]
theorem Hp_rd {σ : St} {k : Nat} {n i : Int} {Q : Int → Prop} : Hp (rd σ k n i) Q ↔ (0 ≤ i ∧ i < n) ∧ Q (σ k i.toNat) := by
  unfold rd
  by_cases h : 0 ≤ i ∧ i < n <;> simp [Hp, h]
theorem Hp_wt {σ : St} {k : Nat} {n i x : Int} {Q : St → Prop} : Hp (wt σ k n i x) Q ↔ (0 ≤ i ∧ i < n) ∧ Q (up σ k i.toNat x) := by
  unfold wt
  by_cases h : 0 ≤ i ∧ i < n <;> simp [Hp, h]
theorem Hp_pt {σ : St} {k j : Nat} {x : Int} {Q : St → Prop} : Hp (pt σ k j x) Q ↔ Q (up σ k j x) := by simp [Hp, pt]
theorem Hp_vl {x : Int} {Q : Int → Prop} : Hp (vl x) Q ↔ Q x := by simp [Hp, vl]
theorem Hp_rr {k : Nat} {n i : Int} {Q : Nat → Prop} : Hp (rr k n i) Q ↔ (0 ≤ i ∧ i < n) ∧ Q (rf k i.toNat) := by
  unfold rr
  by_cases h : 0 ≤ i ∧ i < n <;> simp [Hp, h]
theorem Hp_div {x y : Int} {Q : Int → Prop} : Hp (divI x y) Q ↔ y ≠ 0 ∧ Q (Int32.ofInt x / Int32.ofInt y).toInt := by
  unfold divI
  by_cases h : y = 0 <;> simp [Hp, h]
theorem Hp_rem {x y : Int} {Q : Int → Prop} : Hp (remI x y) Q ↔ y ≠ 0 ∧ Q (Int32.ofInt x - Int32.ofInt x / Int32.ofInt y * Int32.ofInt y).toInt := by
  unfold remI
  by_cases h : y = 0 <;> simp [Hp, h]
theorem Hp_mono {α : Type} {o : Option α} {Q Q' : α → Prop} (h : Hp o Q) (hq : ∀ a, Q a → Q' a) : Hp o Q' := by
  obtain ⟨a, h1, h2⟩ := h
  exact ⟨a, h1, hq a h2⟩
theorem Hp_and {α : Type} {o : Option α} {Q Q' : α → Prop} (h : Hp o Q) (h' : Hp o Q') : Hp o (fun a => Q a ∧ Q' a) := by
  obtain ⟨a, h1, h2⟩ := h
  obtain ⟨b, h3, h4⟩ := h'
  rw [h1] at h3
  injection h3 with h3
  subst h3
  exact ⟨a, h1, h2, h4⟩
/-- what a turn of a loop must give: Q where it leaves, R where it goes on -/
def Lq {α β : Type} (Q : β → Prop) (R : α → Prop) : α ⊕ β → Prop
  | .inl a => R a
  | .inr b => Q b
theorem Lq_inl {α β : Type} {Q : β → Prop} {R : α → Prop} {a : α} : Lq Q R (.inl a) ↔ R a := Iff.rfl
theorem Lq_inr {α β : Type} {Q : β → Prop} {R : α → Prop} {b : β} : Lq Q R (.inr b) ↔ Q b := Iff.rfl
theorem Hp_lpN {α β : Type} {f : α → Option (α ⊕ β)} {P : Nat → α → Prop} {Q : β → Prop} (hs : ∀ n a, P n a → Hp (f a) (Lq Q (fun a' => ∃ n', n' < n ∧ P n' a'))) :
    ∀ (N n : Nat) (a : α), n < N → P n a → Hp (lpN f N a) Q := by
  intro N
  induction N with
  | zero => intro n a h; omega
  | succ N ih =>
    intro n a hn hP
    obtain ⟨r, h1, h2⟩ := hs n a hP
    unfold lpN
    rw [h1]
    cases r with
    | inl a' =>
      obtain ⟨n', h3, h4⟩ := h2
      exact ih n' a' (by omega) h4
    | inr b => exact ⟨b, rfl, h2⟩
/-- a loop with a measure -/
theorem Hp_lp {α β : Type} {f : α → Option (α ⊕ β)} (P : Nat → α → Prop) {Q : β → Prop} {n : Nat} {a : α} (h0 : P n a) (hn : n < 100000) (hs : ∀ n a, P n a → Hp (f a) (Lq Q (fun a' => ∃ n', n' < n ∧ P n' a'))) : Hp (lp f a) Q := Hp_lpN hs FU n a hn h0
/-- a loop that counts up: I j at the beginning of turn j -/
theorem Hp_up {α β : Type} {f : α → Option (α ⊕ β)} {Q : β → Prop} (I : Nat → α → Prop) (i N : Nat) (hN : N < 100000) (hi : i ≤ N) {a : α} (h0 : I i a) (hs : ∀ j a, i ≤ j → j < N → I j a → Hp (f a) (Lq Q (I (j + 1)))) (he : ∀ a, I N a → Hp (f a) (Lq Q (fun _ => False))) : Hp (lp f a) Q := by
  refine Hp_lp (fun n a => n ≤ N - i ∧ I (N - n) a) (n := N - i) ⟨by omega, ?_⟩ (by omega) ?_
  · rw [show N - (N - i) = i by omega]; exact h0
  · intro n a ⟨h1, h2⟩
    by_cases hz : n = 0
    · subst hz
      refine Hp_mono (he a h2) ?_
      intro r hr
      cases r with
      | inl _ => exact False.elim hr
      | inr b => exact hr
    · refine Hp_mono (hs (N - n) a (by omega) (by omega) h2) ?_
      intro r hr
      cases r with
      | inl a' =>
        refine ⟨n - 1, by omega, by omega, ?_⟩
        rw [show N - (n - 1) = N - n + 1 by omega]; exact hr
      | inr b => exact hr
/-- a loop that counts down: I j at the beginning of the turn with j more to do -/
theorem Hp_dn {α β : Type} {f : α → Option (α ⊕ β)} {Q : β → Prop} (I : Nat → α → Prop) (N : Nat) (hN : N < 100000) {a : α} (h0 : I N a) (hs : ∀ j a, j < N → I (j + 1) a → Hp (f a) (Lq Q (I j))) (he : ∀ a, I 0 a → Hp (f a) (Lq Q (fun _ => False))) : Hp (lp f a) Q := by
  refine Hp_lp (fun n a => n ≤ N ∧ I n a) (n := N) ⟨by omega, h0⟩ (by omega) ?_
  intro n a ⟨h1, h2⟩
  cases n with
  | zero =>
    refine Hp_mono (he a h2) ?_
    intro r hr
    cases r with
    | inl _ => exact False.elim hr
    | inr b => exact hr
  | succ n =>
    refine Hp_mono (hs n a (by omega) h2) ?_
    intro r hr
    cases r with
    | inl a' => exact ⟨n, by omega, by omega, hr⟩
    | inr b => exact hr
/-! WHAT A CALL MAY WRITE: cells wholly, and single slots -/
abbrev Rg : Type := List (Nat × Nat) × List (Nat × Nat)
def inC (L : List (Nat × Nat)) (k : Nat) : Bool := L.any fun r => Nat.ble r.1 k && Nat.ble k r.2
def inS (L : List (Nat × Nat)) (k j : Nat) : Bool := L.any fun r => Nat.beq r.1 k && Nat.beq r.2 j
def inR (L : Rg) (k j : Nat) : Bool := inC L.1 k || inS L.2 k j
/-- nothing but L is written -/
def Wr (L : Rg) (σ σ' : St) : Prop := ∀ k j, inR L k j = false → σ' k j = σ k j
/-- nothing but L is read -/
def Dep (L : Rg) (P : St → Prop) : Prop := ∀ σ σ' : St, (∀ k j, inR L k j = true → σ' k j = σ k j) → P σ → P σ'
def djC (r : Nat × Nat) (M : List (Nat × Nat)) : Bool := M.all fun s => Nat.blt r.2 s.1 || Nat.blt s.2 r.1
def dj (L M : Rg) : Bool := (L.1.all fun r => djC r M.1 && (M.2.all fun s => !(Nat.ble r.1 s.1 && Nat.ble s.1 r.2))) && (L.2.all fun s => !(inC M.1 s.1) && !(inS M.2 s.1 s.2))
theorem inC_sp {L : List (Nat × Nat)} {k : Nat} : inC L k = true ↔ ∃ r, r ∈ L ∧ r.1 ≤ k ∧ k ≤ r.2 := by
  simp [inC]
theorem inS_sp {L : List (Nat × Nat)} {k j : Nat} : inS L k j = true ↔ (k, j) ∈ L := by
  simp only [inS, List.any_eq_true, Bool.and_eq_true, Nat.beq_eq]
  constructor
  · rintro ⟨⟨a, b⟩, h, h1, h2⟩
    simp only at h1 h2
    subst h1; subst h2; exact h
  · intro h; exact ⟨(k, j), h, rfl, rfl⟩
theorem dj_sp {L M : Rg} (h : dj L M = true) {k j : Nat} (hk : inR L k j = true) : inR M k j = false := by
  simp only [dj, Bool.and_eq_true, List.all_eq_true, djC, Bool.or_eq_true, Nat.blt_eq, Bool.not_eq_true', Bool.and_eq_false_iff] at h
  obtain ⟨h1, h2⟩ := h
  cases hc : inR M k j with
  | false => rfl
  | true =>
    exfalso
    simp only [inR, Bool.or_eq_true] at hk hc
    rcases hk with hk | hk
    · rw [inC_sp] at hk
      obtain ⟨r, hr, hr1, hr2⟩ := hk
      obtain ⟨h3, h4⟩ := h1 r hr
      rcases hc with hc | hc
      · rw [inC_sp] at hc
        obtain ⟨s, hs, hs1, hs2⟩ := hc
        have := h3 s hs
        omega
      · rw [inS_sp] at hc
        have := h4 _ hc
        simp only [Nat.ble_eq, Bool.eq_false_iff, ne_eq] at this
        omega
    · rw [inS_sp] at hk
      obtain ⟨h3, h4⟩ := h2 _ hk
      rcases hc with hc | hc
      · rw [hc] at h3; exact absurd h3 (by simp)
      · rw [hc] at h4; exact absurd h4 (by simp)
theorem keep {L M : Rg} {P : St → Prop} {σ σ' : St} (hD : Dep L P) (hw : Wr M σ σ') (hd : dj L M = true) (h : P σ) : P σ' :=
  hD σ σ' (fun k j hk => hw k j (dj_sp hd hk)) h
theorem Wr_rf {L : Rg} {σ : St} : Wr L σ σ := fun _ _ _ => rfl
theorem Wr_tr {L : Rg} {σ σ1 σ2 : St} (h1 : Wr L σ σ1) (h2 : Wr L σ1 σ2) : Wr L σ σ2 := fun k j hk => (h2 k j hk).trans (h1 k j hk)
theorem Wr_up {L : Rg} {σ σ' : St} {k i : Nat} {x : Int} (h : Wr L σ σ') (hk : inR L k i = true) : Wr L σ (up σ' k i x) := fun k' j' hk' => by
  unfold up
  split
  next q => rw [q.1, q.2, hk] at hk'; exact absurd hk' (by simp)
  next q => exact h k' j' hk'
def sbC (L M : List (Nat × Nat)) : Bool := L.all fun r => M.any fun s => Nat.ble s.1 r.1 && Nat.ble r.2 s.2
def sbR (L M : Rg) : Bool := sbC L.1 M.1 && (L.2.all fun s => inC M.1 s.1 || inS M.2 s.1 s.2)
theorem sb_sp {L M : Rg} (h : sbR L M = true) {k j : Nat} (hk : inR L k j = true) : inR M k j = true := by
  simp only [sbR, sbC, Bool.and_eq_true, List.all_eq_true, List.any_eq_true, Nat.ble_eq, Bool.or_eq_true] at h
  obtain ⟨h1, h2⟩ := h
  simp only [inR, Bool.or_eq_true] at hk ⊢
  rcases hk with hk | hk
  · rw [inC_sp] at hk
    obtain ⟨r, hr, hr1, hr2⟩ := hk
    obtain ⟨s, hs, hs1, hs2⟩ := h1 r hr
    exact Or.inl (inC_sp.mpr ⟨s, hs, by omega, by omega⟩)
  · rw [inS_sp] at hk
    exact h2 _ hk
theorem Wr_sb {L M : Rg} {σ σ' : St} (h : Wr L σ σ') (hs : sbR L M = true) : Wr M σ σ' := fun k j hk => h k j (by
  cases hc : inR L k j with
  | false => rfl
  | true => rw [sb_sp hs hc] at hk; exact absurd hk (by simp))
