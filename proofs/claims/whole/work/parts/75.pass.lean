/-! ENDS THAT ARE NO DEEDS: what both sides do at them -/
/-- from step p with stack l one goes past an end: to step p' with stack l' -/
def Past (σ : St) (k0 n : Nat) (cx : Nat → List Bool) (cd : Nat → Nat) (p : Nat) (l : List (Nat × Nat)) (p' : Nat) (l' : List (Nat × Nat)) : Prop :=
  (σ (k0 + 1) p = 31 ∧ l = (1, 1) :: l' ∧ p' = p + 1) ∨
  (σ (k0 + 1) p = 32 ∧ l' = l ∧ ∃ t, Tg n cx cd (σ (k0 + 5) p) p t (cx p) ∧ p' = t) ∨
  (σ (k0 + 1) p = 33 ∧ (∃ v, l = (2, v) :: l') ∧ ∃ r t, cx p = false :: r ∧ Tg n cx cd (σ (k0 + 5) p) p t r ∧ p' = t) ∨
  (σ (k0 + 1) p = 34 ∧ l = (0, p') :: l')
/-- at step p there is no end to go past -/
def Stay (σ : St) (k0 p : Nat) (l : List (Nat × Nat)) : Prop := (σ (k0 + 1) p ≠ 31 ∧ σ (k0 + 1) p ≠ 32 ∧ σ (k0 + 1) p ≠ 33 ∧ σ (k0 + 1) p ≠ 34) ∨ (σ (k0 + 1) p = 31 ∧ ∃ v l', l = (1, v) :: l' ∧ 2 ≤ v)
theorem isStep_eq {p n : Nat} {τ : St} (h7 : τ 22 7 = (n : Int)) (hn : n ≤ 512) (hp : p < n) : m_X5_isStep 22 p τ = some 1 := by
  rw [m_X5_isStep, if_neg (by omega), if_neg (by omega), if_neg (by omega)]
theorem target_eq {p n : Nat} {τ σ : St} (h7 : τ 22 7 = (n : Int)) (hn : n ≤ 512) (hp : p < n) (h27 : τ 27 = σ 27) : m_X8_targetOf p τ = some (σ 27 p) := by
  rw [m_X8_targetOf, isStep_eq h7 hn hp, bnd_s, if_neg (by decide), rd_ok (by omega) (by omega), bnd_s, Int.toNat_natCast, h27]
theorem pass_c {σ τ : St} {L n c a p A d : Nat} {f : Nat → Nat} {cx : Nat → List Bool} {cd : Nat → Nat} {l : List (Nat × Nat)} (hP : PgT σ 22 L n c f cx cd) (h7 : τ 22 7 = (n : Int)) (h23 : τ 23 = σ 23) (h27 : τ 27 = σ 27) (ha : a < 8) (hp : p < n) (h4 : τ (39 + 7 * a) 4 = (p : Int)) (hF : FrC τ a l) (hS : Stk A n cx cd (d + 1) p l) :
    Hp (m_X8_passesEnd (39 + 7 * a) τ) (fun q => (q.1 = 0 ∧ q.2 = τ ∧ Stay σ 22 p l) ∨ (q.1 = 1 ∧ σ 23 p = 34 ∧ l = [] ∧ q.2 = up τ (39 + 7 * a) 18 (τ 129 12)) ∨
      (q.1 = 1 ∧ ∃ p' l', Past σ 22 n cx cd p l p' l' ∧ q.2 (39 + 7 * a) 4 = (p' : Int) ∧ FrC q.2 a l' ∧ ∀ k j, ¬ (k = 39 + 7 * a ∧ j = 4) → ¬ (k = 40 + 7 * a ∧ j = 2) → q.2 k j = τ k j)) := by
  obtain ⟨⟨n1, n2, n3, n4⟩, P1, P2, P3⟩ := hP
  obtain ⟨q1, q2, q3, q4⟩ := P1 p hp
  obtain ⟨r, hMt, hr⟩ := hS
  rw [m_X8_passesEnd, h4, isStep_eq h7 n1 hp, bnd_s, if_neg (by decide), rd_ok (by omega) (by omega), bnd_s, Int.toNat_natCast, h23]
  simp only [m_X8_passesEnd_J30]
  have hst : ∀ k : Int, σ 23 p = k → k ≠ -1 → k ≠ 31 → k ≠ 32 → k ≠ 33 → k ≠ 34 → Hp (if σ 23 p = -1 then (pt τ (39 + 7 * a) 18 (τ 129 12)).bind fun σ9 => some (1, σ9) else some ((0 : Int), τ)) (fun q => (q.1 = 0 ∧ q.2 = τ ∧ Stay σ 22 p l) ∨ (q.1 = 1 ∧ σ 23 p = 34 ∧ l = [] ∧ q.2 = up τ (39 + 7 * a) 18 (τ 129 12)) ∨
      (q.1 = 1 ∧ ∃ p' l', Past σ 22 n cx cd p l p' l' ∧ q.2 (39 + 7 * a) 4 = (p' : Int) ∧ FrC q.2 a l' ∧ ∀ k j, ¬ (k = 39 + 7 * a ∧ j = 4) → ¬ (k = 40 + 7 * a ∧ j = 2) → q.2 k j = τ k j)) := by
    intro k hk e1 e2 e3 e4 e5
    rw [if_neg (by omega), Hp_some]
    refine Or.inl ⟨rfl, rfl, Or.inl ⟨?_, ?_, ?_, ?_⟩⟩ <;> (show σ 23 p ≠ _) <;> omega
  have hplain : ∀ k : Nat, σ 23 p = (k : Int) → k ≠ 31 → k ≠ 32 → k ≠ 33 → k ≠ 34 → Hp (m_X8_passesEnd_J30 τ (39 + 7 * a) (σ 23 p)) (fun q => (q.1 = 0 ∧ q.2 = τ ∧ Stay σ 22 p l) ∨ (q.1 = 1 ∧ σ 23 p = 34 ∧ l = [] ∧ q.2 = up τ (39 + 7 * a) 18 (τ 129 12)) ∨
      (q.1 = 1 ∧ ∃ p' l', Past σ 22 n cx cd p l p' l' ∧ q.2 (39 + 7 * a) 4 = (p' : Int) ∧ FrC q.2 a l' ∧ ∀ k j, ¬ (k = 39 + 7 * a ∧ j = 4) → ¬ (k = 40 + 7 * a ∧ j = 2) → q.2 k j = τ k j)) := by
    intro k hk e2 e3 e4 e5
    rw [m_X8_passesEnd_J30, if_neg (by omega), if_neg (by omega), if_neg (by omega), if_neg (by omega), if_neg (by omega), Hp_some]
    refine Or.inl ⟨rfl, rfl, Or.inl ⟨?_, ?_, ?_, ?_⟩⟩ <;> (show σ 23 p ≠ _) <;> omega
  clear hst
  show Hp (m_X8_passesEnd_J30 τ (39 + 7 * a) (σ 23 p)) _
  have eT : σ (22 + 5) p = σ 27 p := rfl
  have eK : σ (22 + 1) p = σ 23 p := rfl
  rw [show StOK σ 22 n f cx cd p = StOK σ 22 n f cx cd p from rfl] at q4
  rcases q4 with ⟨k, o, m, hk, e, -⟩ | ⟨e, -⟩ | ⟨e, -⟩ | ⟨e, e1, e2, e3, t, e4, e5, e6⟩ | ⟨-, e, -⟩ | ⟨e, -⟩ | ⟨e, e1, t, e2, e3, e4⟩ | ⟨e, e1, rr, t, e2, e3, e4, e5⟩ | ⟨e, e1, e2⟩
  · rw [eK] at e
    exact hplain k e (by omega) (by omega) (by omega) (by omega)
  · exact hplain 3 e (by omega) (by omega) (by omega) (by omega)
  · exact hplain 13 e (by omega) (by omega) (by omega) (by omega)
  · -- a loop's end
    rw [eK] at e
    rw [e3] at hMt
    obtain ⟨v, l', hl, hv1, hv2, hMt'⟩ := hMt
    subst hl
    have htop := top_c hF
    have hcv : cvl (1, v) = (v : Int) - 1 := by unfold cvl; rw [if_pos rfl]
    rw [m_X8_passesEnd_J30, e, if_neg (by decide), if_pos rfl, show 39 + 7 * a + 1 = 40 + 7 * a by omega, htop, bnd_s, hcv]
    by_cases hz : (v : Int) - 1 ≤ 0
    · have hv : v = 1 := by omega
      subst hv
      rw [if_pos hz, Hp_bind]
      refine Hp_mono (pop_c hF) ?_
      rintro ⟨y, τ1⟩ ⟨-, g2, g3⟩
      simp only at g2 g3 ⊢
      rw [Hp_bind, Hp_pt, Hp_some]
      have g4 : τ1 (39 + 7 * a) 4 = (p : Int) := (g3 _ _ (by omega)).trans h4
      refine Or.inr (Or.inr ⟨rfl, p + 1, l', Or.inl ⟨e, rfl, rfl⟩, ?_, ?_, ?_⟩)
      · simp only
        rw [up_eq, g4, wr_id' (by omega) (by omega)]; omega
      · obtain ⟨f1, f2, f3⟩ := g2
        refine ⟨by simp only; rw [up_cell (by omega)]; exact f1, f2, ?_⟩
        intro i e' he
        simp only
        rw [up_cell (by omega), up_cell (by omega)]
        exact f3 i e' he
      · intro k j n1 n2
        simp only
        by_cases hk : k = 39 + 7 * a
        · subst hk
          rw [up_slot (by omega)]
          exact g3 _ _ (by omega)
        · rw [up_cell hk]; exact g3 _ _ n2
    · rw [if_neg hz, Hp_some]
      exact Or.inl ⟨rfl, rfl, Or.inr ⟨e, v, l', rfl, by omega⟩⟩
  · exact hplain 9 e (by omega) (by omega) (by omega) (by omega)
  · exact hplain 15 e (by omega) (by omega) (by omega) (by omega)
  · -- a jump
    rw [eK] at e
    rw [m_X8_passesEnd_J30, e, if_neg (by decide), if_neg (by decide), if_pos rfl, h4, target_eq h7 n1 hp h27, bnd_s, Hp_bind, Hp_pt, Hp_some]
    refine Or.inr (Or.inr ⟨rfl, t, l, Or.inr (Or.inl ⟨e, rfl, t, e2, rfl⟩), ?_, ?_, ?_⟩)
    · simp only
      rw [up_eq]
      exact e2.1
    · obtain ⟨f1, f2, f3⟩ := hF
      refine ⟨by simp only; rw [up_cell (by omega)]; exact f1, f2, ?_⟩
      intro i e' he
      simp only
      rw [up_cell (by omega), up_cell (by omega)]
      exact f3 i e' he
    · intro k j n1 n2
      simp only
      by_cases hk : k = 39 + 7 * a
      · subst hk
        rw [up_slot (by omega)]
      · rw [up_cell hk]
  · -- the end of a meet's first deeds
    rw [eK] at e
    rw [e2] at hMt
    obtain ⟨v, l', hl, hv1, hMt'⟩ := hMt
    subst hl
    rw [m_X8_passesEnd_J30, e, if_neg (by decide), if_neg (by decide), if_neg (by decide), if_pos rfl, show 39 + 7 * a + 1 = 40 + 7 * a by omega, Hp_bind]
    refine Hp_mono (pop_c hF) ?_
    rintro ⟨y, τ1⟩ ⟨-, g2, g3⟩
    simp only at g2 g3 ⊢
    have g4 : τ1 (39 + 7 * a) 4 = (p : Int) := (g3 _ _ (by omega)).trans h4
    have g7 : τ1 22 7 = (n : Int) := (g3 22 7 (by omega)).trans h7
    have g27 : τ1 27 = σ 27 := by rw [← h27]; exact funext fun j => g3 27 j (by omega)
    rw [g4, target_eq g7 n1 hp g27, bnd_s, Hp_bind, Hp_pt, Hp_some]
    refine Or.inr (Or.inr ⟨rfl, t, l', Or.inr (Or.inr (Or.inl ⟨e, ⟨v, rfl⟩, rr, t, e2, e3, rfl⟩)), ?_, ?_, ?_⟩)
    · simp only
      rw [up_eq]
      exact e3.1
    · obtain ⟨f1, f2, f3⟩ := g2
      refine ⟨by simp only; rw [up_cell (by omega)]; exact f1, f2, ?_⟩
      intro i e' he
      simp only
      rw [up_cell (by omega), up_cell (by omega)]
      exact f3 i e' he
    · intro k j n1 n2
      simp only
      by_cases hk : k = 39 + 7 * a
      · subst hk
        rw [up_slot (by omega)]
        exact g3 _ _ (by omega)
      · rw [up_cell hk]; exact g3 _ _ n2
  · -- a code's end
    rw [eK] at e
    rw [e2] at hMt
    have hlr : l = r := hMt
    subst hlr
    rw [m_X8_passesEnd_J30, e, if_neg (by decide), if_neg (by decide), if_neg (by decide), if_neg (by decide), if_pos rfl, show 39 + 7 * a + 1 = 40 + 7 * a by omega, empty_c hF, bnd_s]
    rcases hr with hl | ⟨q, r', hl, hq, hlt, hS'⟩
    · subst hl
      rw [if_pos (show ([] : List (Nat × Nat)) = [] from rfl), if_neg (show ¬ (1 : Int) = 0 by decide), Hp_bind, Hp_pt, Hp_some]
      exact Or.inr (Or.inl ⟨rfl, by first | exact e | rfl, rfl, rfl⟩)
    · subst hl
      rw [if_neg (show ¬ ((0, q) :: r' = []) by simp), if_pos rfl, Hp_bind]
      refine Hp_mono (pop_c hF) ?_
      rintro ⟨y, τ1⟩ ⟨g1, g2, g3⟩
      simp only at g1 g2 g3 ⊢
      rw [Hp_bind, Hp_pt, Hp_some]
      refine Or.inr (Or.inr ⟨rfl, q, r', Or.inr (Or.inr (Or.inr ⟨e, rfl⟩)), ?_, ?_, ?_⟩)
      · simp only
        rw [up_eq, g1]
        unfold cvl
        rw [if_neg (show ¬ ((0 : Nat) = 1) by decide)]
      · obtain ⟨f1, f2, f3⟩ := g2
        refine ⟨by simp only; rw [up_cell (by omega)]; exact f1, f2, ?_⟩
        intro i e' he
        simp only
        rw [up_cell (by omega), up_cell (by omega)]
        exact f3 i e' he
      · intro k j n1 n2
        simp only
        by_cases hk : k = 39 + 7 * a
        · subst hk
          rw [up_slot (by omega)]
          exact g3 _ _ (by omega)
        · rw [up_cell hk]; exact g3 _ _ n2
