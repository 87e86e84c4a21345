/-! PURE MATHEMATICS: base. Nothing here speaks of the machine. -/
theorem rd_ok {σ : St} {k : Nat} {n i : Int} (h0 : 0 ≤ i) (h1 : i < n) : rd σ k n i = some (σ k i.toNat) := if_pos ⟨h0, h1⟩
theorem wt_ok {σ : St} {k : Nat} {n i x : Int} (h0 : 0 ≤ i) (h1 : i < n) : wt σ k n i x = some (up σ k i.toNat x) := if_pos ⟨h0, h1⟩
theorem rr_ok {k : Nat} {n i : Int} (h0 : 0 ≤ i) (h1 : i < n) : rr k n i = some (rf k i.toNat) := if_pos ⟨h0, h1⟩
theorem wr_id' {x : Int} (h0 : -2147483648 ≤ x) (h1 : x ≤ 2147483647) : wr x = x := wr_id ⟨h0, h1⟩
theorem up_eq (σ : St) (k i : Nat) (x : Int) : up σ k i x k i = x := by simp [up]
theorem up_cell {σ : St} {k i k' j : Nat} {x : Int} (h : k' ≠ k) : up σ k i x k' j = σ k' j := by simp [up, h]
theorem up_slot {σ : St} {k i k' j : Nat} {x : Int} (h : j ≠ i) : up σ k i x k' j = σ k' j := by simp [up, h]
/-- a loop that comes to its end: P n a says that n turns are left -/
theorem lpN_of {α β : Type} {f : α → Option (α ⊕ β)} {P : Nat → α → Prop} {Q : β → Prop} (hs : ∀ n a, P n a → (∃ b, f a = some (.inr b) ∧ Q b) ∨ (∃ n' a', n = n' + 1 ∧ f a = some (.inl a') ∧ P n' a')) :
    ∀ (N n : Nat) (a : α), n < N → P n a → ∃ b, lpN f N a = some b ∧ Q b := by
  intro N
  induction N with
  | zero => intro n a h; omega
  | succ N ih =>
    intro n a hn hP
    rcases hs n a hP with ⟨b, h1, h2⟩ | ⟨n', a', h1, h2, h3⟩
    · exact ⟨b, by unfold lpN; rw [h1], h2⟩
    · obtain ⟨b, h4, h5⟩ := ih n' a' (by omega) h3
      exact ⟨b, by unfold lpN; rw [h2]; exact h4, h5⟩
theorem lp_of {α β : Type} {f : α → Option (α ⊕ β)} {P : Nat → α → Prop} {Q : β → Prop} (hs : ∀ n a, P n a → (∃ b, f a = some (.inr b) ∧ Q b) ∨ (∃ n' a', n = n' + 1 ∧ f a = some (.inl a') ∧ P n' a')) {n : Nat} {a : α} (hn : n < 100000) (h : P n a) : ∃ b, lp f a = some b ∧ Q b := lpN_of hs FU n a hn h
/-- the states agree but at the cells of S -/
def Fr (S : Nat → Prop) (σ σ' : St) : Prop := ∀ k, ¬ S k → σ' k = σ k
theorem Fr.rf {S : Nat → Prop} {σ : St} : Fr S σ σ := fun _ _ => rfl
theorem Fr.tr {S : Nat → Prop} {σ σ1 σ2 : St} (h1 : Fr S σ σ1) (h2 : Fr S σ1 σ2) : Fr S σ σ2 := fun k hk => (h2 k hk).trans (h1 k hk)
theorem Fr.mono {S S' : Nat → Prop} {σ σ' : St} (h : Fr S σ σ') (hS : ∀ k, S k → S' k) : Fr S' σ σ' := fun k hk => h k (fun q => hk (hS k q))
theorem Fr.up {S : Nat → Prop} {σ σ' : St} {k i : Nat} {x : Int} (h : Fr S σ σ') (hk : S k) : Fr S σ (up σ' k i x) := fun k' hk' => by
  have : k' ≠ k := fun q => hk' (by rw [q]; exact hk)
  rw [up_ne k' this]
  exact h k' hk'
