/-! an end that is gone past leads to a later step, with a stack that fits it; chains of a loop's turns -/
theorem past_ok {σ : St} {L n c p A d : Nat} {f : Nat → Nat} {cx : Nat → List Bool} {cd : Nat → Nat} {l l' : List (Nat × Nat)} {p' : Nat} (hP : PgT σ 22 L n c f cx cd) (hp : p < n) (hS : Stk A n cx cd (d + 1) p l) (hN : Past σ 22 n cx cd p l p' l') : p < p' ∧ p' < n ∧ ∃ d', Stk A n cx cd (d' + 1) p' l' := by
  obtain ⟨⟨n1, n2, n3, n4⟩, P1, P2, P3⟩ := hP
  obtain ⟨q1, q2, q3, q4⟩ := P1 p hp
  obtain ⟨r, hMt, hr⟩ := hS
  rcases hN with ⟨e, hl, hp'⟩ | ⟨e, hl, t, hT, hp'⟩ | ⟨e, ⟨v, hl⟩, rr, t, hx, hT, hp'⟩ | ⟨e, hl⟩
  · rcases q4 with ⟨k, o, m, hk, e1, -⟩ | ⟨e1, -⟩ | ⟨e1, -⟩ | ⟨e1, -, hs, hc, -⟩ | ⟨-, e1, -⟩ | ⟨e1, -⟩ | ⟨e1, -⟩ | ⟨e1, -⟩ | ⟨e1, -⟩
    · exact absurd (e.symm.trans e1) (by omega)
    · exact absurd (e.symm.trans e1) (by decide)
    · exact absurd (e.symm.trans e1) (by decide)
    · rw [hc] at hMt
      obtain ⟨v, l0, h1, -, -, h2⟩ := hMt
      have h3 : l' = l0 := (List.cons.inj (hl.symm.trans h1)).2
      subst hp'; subst h3
      refine ⟨by omega, hs.1, d, r, h2, ?_⟩
      rw [hs.2.2]; exact hr
    · exact absurd (e.symm.trans e1) (by decide)
    · exact absurd (e.symm.trans e1) (by decide)
    · exact absurd (e.symm.trans e1) (by decide)
    · exact absurd (e.symm.trans e1) (by decide)
    · exact absurd (e.symm.trans e1) (by decide)
  · rcases q4 with ⟨k, o, m, hk, e1, -⟩ | ⟨e1, -⟩ | ⟨e1, -⟩ | ⟨e1, -⟩ | ⟨-, e1, -⟩ | ⟨e1, -⟩ | ⟨e1, -, t1, hT1, hlt, -⟩ | ⟨e1, -⟩ | ⟨e1, -⟩
    · exact absurd (e.symm.trans e1) (by omega)
    · exact absurd (e.symm.trans e1) (by decide)
    · exact absurd (e.symm.trans e1) (by decide)
    · exact absurd (e.symm.trans e1) (by decide)
    · exact absurd (e.symm.trans e1) (by decide)
    · exact absurd (e.symm.trans e1) (by decide)
    · have ht : (t : Int) = (t1 : Int) := hT.1.symm.trans hT1.1
      subst hp'; subst hl
      refine ⟨by omega, hT.2.1, d, r, ?_, ?_⟩
      · rw [hT.2.2.1]; exact hMt
      · rw [hT.2.2.2]; exact hr
    · exact absurd (e.symm.trans e1) (by decide)
    · exact absurd (e.symm.trans e1) (by decide)
  · rcases q4 with ⟨k, o, m, hk, e1, -⟩ | ⟨e1, -⟩ | ⟨e1, -⟩ | ⟨e1, -⟩ | ⟨-, e1, -⟩ | ⟨e1, -⟩ | ⟨e1, -⟩ | ⟨e1, -, r1, t1, hx1, hT1, hlt, -⟩ | ⟨e1, -⟩
    · exact absurd (e.symm.trans e1) (by omega)
    · exact absurd (e.symm.trans e1) (by decide)
    · exact absurd (e.symm.trans e1) (by decide)
    · exact absurd (e.symm.trans e1) (by decide)
    · exact absurd (e.symm.trans e1) (by decide)
    · exact absurd (e.symm.trans e1) (by decide)
    · exact absurd (e.symm.trans e1) (by decide)
    · have ht : (t : Int) = (t1 : Int) := hT.1.symm.trans hT1.1
      rw [hx] at hMt
      obtain ⟨v1, l0, h1, -, h2⟩ := hMt
      have h3 : l' = l0 := (List.cons.inj (hl.symm.trans h1)).2
      subst hp'; subst h3
      refine ⟨by omega, hT.2.1, d, r, ?_, ?_⟩
      · rw [hT.2.2.1]; exact h2
      · rw [hT.2.2.2]; exact hr
    · exact absurd (e.symm.trans e1) (by decide)
  · rcases q4 with ⟨k, o, m, hk, e1, -⟩ | ⟨e1, -⟩ | ⟨e1, -⟩ | ⟨e1, -⟩ | ⟨-, e1, -⟩ | ⟨e1, -⟩ | ⟨e1, -⟩ | ⟨e1, -⟩ | ⟨e1, -, hx⟩
    · exact absurd (e.symm.trans e1) (by omega)
    · exact absurd (e.symm.trans e1) (by decide)
    · exact absurd (e.symm.trans e1) (by decide)
    · exact absurd (e.symm.trans e1) (by decide)
    · exact absurd (e.symm.trans e1) (by decide)
    · exact absurd (e.symm.trans e1) (by decide)
    · exact absurd (e.symm.trans e1) (by decide)
    · exact absurd (e.symm.trans e1) (by decide)
    · rw [hx] at hMt
      have hlr : l = r := hMt
      rcases hr with h0 | ⟨q, r', h0, hq, hlt, hS'⟩
      · exact absurd (hl.symm.trans (hlr.trans h0)) (by simp)
      · have hc := List.cons.inj (hl.symm.trans (hlr.trans h0))
        have hpq : p' = q := congrArg Prod.snd hc.1
        have hlr' : l' = r' := hc.2
        subst hpq; subst hlr'
        refine ⟨?_, hq, ?_⟩
        · by_cases hle : p < p'
          · exact hle
          · have := P2 p' p (by omega) hp
            omega
        · cases d with
          | zero => exact absurd hS' id
          | succ d => exact ⟨d, hS'⟩
/-- k turns of the loop lead from a to b -/
def Rch {α β : Type} (f : α → Option (α ⊕ β)) : Nat → α → α → Prop
  | 0, a, b => a = b
  | k + 1, a, b => ∃ a', f a = some (.inl a') ∧ Rch f k a' b
theorem Rch_snoc {α β : Type} {f : α → Option (α ⊕ β)} {c d : α} (h2 : f c = some (.inl d)) : ∀ (k : Nat) (a : α), Rch f k a c → Rch f (k + 1) a d := by
  intro k
  induction k with
  | zero => intro a h; have h' : a = c := h; exact ⟨d, by rw [h']; exact h2, rfl⟩
  | succ k ih => rintro a ⟨a', h1, h3⟩; exact ⟨a', h1, ih a' h3⟩
theorem lpN_rch {α β : Type} {f : α → Option (α ⊕ β)} {b : α} {N : Nat} {r : β} (h : lpN f N b = some r) : ∀ (k : Nat) (a : α), Rch f k a b → lpN f (N + k) a = some r := by
  intro k
  induction k with
  | zero => intro a h1; have h' : a = b := h1; rw [h']; exact h
  | succ k ih =>
    rintro a ⟨a', h1, h2⟩
    have := ih a' h2
    rw [show N + (k + 1) = N + k + 1 by omega]
    unfold lpN
    rw [h1]
    exact this
/-- two loops, each going at most K turns of its own at a time -/
theorem Hp2_chN {α β γ δ : Type} {f : α → Option (α ⊕ β)} {g : γ → Option (γ ⊕ δ)} {P : Nat → α → γ → Prop} {Q : β → δ → Prop} {K : Nat}
    (hs : ∀ n a c, P n a c → ∃ k m a' c', k ≤ K ∧ m ≤ K ∧ Rch f k a a' ∧ Rch g m c c' ∧ ((∃ b d, f a' = some (.inr b) ∧ g c' = some (.inr d) ∧ Q b d) ∨ (∃ n', n' < n ∧ P n' a' c'))) :
    ∀ (n : Nat) (a : α) (c : γ), P n a c → ∃ b d, lpN f ((n + 1) * (K + 1)) a = some b ∧ lpN g ((n + 1) * (K + 1)) c = some d ∧ Q b d := by
  intro n
  induction n using Nat.strongRecOn with
  | ind n ih =>
    intro a c hP
    obtain ⟨k, m, a', c', hk, hm, r1, r2, h⟩ := hs n a c hP
    have hKn : (n + 1) * (K + 1) = n * (K + 1) + (K + 1) := Nat.succ_mul n (K + 1)
    rcases h with ⟨b, d, h1, h2, h3⟩ | ⟨n', hn, h3⟩
    · have e1 : lpN f 1 a' = some b := by unfold lpN; rw [h1]
      have e2 : lpN g 1 c' = some d := by unfold lpN; rw [h2]
      have hpos : 0 ≤ n * (K + 1) := Nat.zero_le _
      exact ⟨b, d, lpN_mono _ _ (lpN_rch e1 k a r1) _ (by rw [hKn]; omega), lpN_mono _ _ (lpN_rch e2 m c r2) _ (by rw [hKn]; omega), h3⟩
    · obtain ⟨b, d, k1, k2, k3⟩ := ih n' hn a' c' h3
      have hle : (n' + 1) * (K + 1) ≤ n * (K + 1) := Nat.mul_le_mul_right _ (by omega)
      exact ⟨b, d, lpN_mono _ _ (lpN_rch k1 k a r1) _ (by rw [hKn]; omega), lpN_mono _ _ (lpN_rch k2 m c r2) _ (by rw [hKn]; omega), k3⟩
theorem Hp2_ch {α β γ δ : Type} {f : α → Option (α ⊕ β)} {g : γ → Option (γ ⊕ δ)} (P : Nat → α → γ → Prop) {Q : β → δ → Prop} (K : Nat) {n : Nat} {a : α} {c : γ} (h0 : P n a c) (hn : (n + 1) * (K + 1) ≤ 100000)
    (hs : ∀ n a c, P n a c → ∃ k m a' c', k ≤ K ∧ m ≤ K ∧ Rch f k a a' ∧ Rch g m c c' ∧ ((∃ b d, f a' = some (.inr b) ∧ g c' = some (.inr d) ∧ Q b d) ∨ (∃ n', n' < n ∧ P n' a' c'))) : Hp2 (lp f a) (lp g c) Q := by
  obtain ⟨b, d, k1, k2, k3⟩ := Hp2_chN hs n a c h0
  exact ⟨b, d, lpN_mono _ _ k1 FU (by unfold FU; exact hn), lpN_mono _ _ k2 FU (by unfold FU; exact hn), k3⟩
