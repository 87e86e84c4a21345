/-! the beginning of a run: the class's agents -/
/-- agent b as it is put back -/
def Fr0 (b : Nat) (τ : St) : Prop := (τ (40 + 7 * b) 2 = 0 ∧ τ (39 + 7 * b) 5 = 0 ∧ τ (39 + 7 * b) 6 = -1 ∧ τ (39 + 7 * b) 8 = -1) ∧ (τ (39 + 7 * b) 9 = τ (39 + 7 * b) 0 ∧ τ (39 + 7 * b) 10 = -1 ∧ τ (39 + 7 * b) 12 = -1) ∧ (τ (39 + 7 * b) 16 = 0 ∧ τ (39 + 7 * b) 17 = 0 ∧ τ (39 + 7 * b) 18 = -1) ∧ (∀ t : Nat, t < 96 → τ (43 + 7 * b) t = -1) ∧ ∀ i : Nat, i < 8 → τ (44 + 7 * b) i = -1 ∧ τ (45 + 7 * b) i = -1
/-- the cells of agent b that a run writes -/
def Own1 (b k j : Nat) : Prop := (k = 39 + 7 * b ∧ 4 ≤ j ∧ j ≤ 18) ∨ (40 + 7 * b ≤ k ∧ k ≤ 45 + 7 * b)
theorem begin_62 {b : Nat} {τ : St} : Hp (lp (fun a => m_X0_begin_L62 (39 + 7 * b) a.1 a.2) (0, τ)) (fun τ' => (∀ k j, k ≠ 43 + 7 * b → τ' k j = τ k j) ∧ ∀ t : Nat, t < 96 → τ' (43 + 7 * b) t = -1) := by
  refine Hp_up (fun j (z : Int × St) => z.1 = (j : Int) ∧ (∀ k i, k ≠ 43 + 7 * b → z.2 k i = τ k i) ∧ ∀ t : Nat, t < j → z.2 (43 + 7 * b) t = -1) 0 96 (by omega) (by omega) ⟨rfl, fun _ _ _ => rfl, fun t h => by omega⟩ ?_ ?_
  · rintro j ⟨x, σ⟩ - hj ⟨e1, e2, e3⟩
    simp only at e1 e2 e3
    subst e1
    simp only [m_X0_begin_L62]
    rw [if_neg (by omega), wt_ok (by omega) (by omega), bnd_s, Int.toNat_natCast, nx1 (by omega), Hp_some, Lq_inl, show 39 + 7 * b + 4 = 43 + 7 * b by omega]
    refine ⟨rfl, fun k i hk => ?_, fun t ht => ?_⟩
    · simp only; rw [up_cell hk]; exact e2 k i hk
    · simp only
      by_cases htj : t = j
      · subst htj; rw [up_eq]
      · rw [up_slot htj]; exact e3 t (by omega)
  · rintro ⟨x, σ⟩ ⟨e1, e2, e3⟩
    simp only at e1 e2 e3
    subst e1
    simp only [m_X0_begin_L62]
    rw [if_pos (by omega), Hp_some, Lq_inr]
    exact ⟨e2, e3⟩
theorem begin_83 {b : Nat} {τ : St} : Hp (lp (fun a => m_X0_begin_L83 (39 + 7 * b) a.1 a.2) (0, τ)) (fun τ' => (∀ k j, k ≠ 44 + 7 * b → k ≠ 45 + 7 * b → τ' k j = τ k j) ∧ ∀ i : Nat, i < 8 → τ' (44 + 7 * b) i = -1 ∧ τ' (45 + 7 * b) i = -1) := by
  refine Hp_up (fun j (z : Int × St) => z.1 = (j : Int) ∧ (∀ k i, k ≠ 44 + 7 * b → k ≠ 45 + 7 * b → z.2 k i = τ k i) ∧ ∀ i : Nat, i < j → z.2 (44 + 7 * b) i = -1 ∧ z.2 (45 + 7 * b) i = -1) 0 8 (by omega) (by omega) ⟨rfl, fun _ _ _ _ => rfl, fun t h => by omega⟩ ?_ ?_
  · rintro j ⟨x, σ⟩ - hj ⟨e1, e2, e3⟩
    simp only at e1 e2 e3
    subst e1
    simp only [m_X0_begin_L83]
    rw [if_neg (by omega), wt_ok (by omega) (by omega), bnd_s, Int.toNat_natCast, wt_ok (by omega) (by omega), bnd_s, Int.toNat_natCast, nx1 (by omega), Hp_some, Lq_inl, show 39 + 7 * b + 5 = 44 + 7 * b by omega, show 39 + 7 * b + 6 = 45 + 7 * b by omega]
    refine ⟨rfl, fun k i hk hk2 => ?_, fun t ht => ?_⟩
    · simp only; rw [up_cell hk2, up_cell hk]; exact e2 k i hk hk2
    · simp only
      by_cases htj : t = j
      · subst htj; rw [up_cell (by omega), up_eq, up_eq]; exact ⟨rfl, rfl⟩
      · rw [up_cell (by omega), up_slot htj, up_slot htj, up_cell (by omega)]; exact e3 t (by omega)
  · rintro ⟨x, σ⟩ ⟨e1, e2, e3⟩
    simp only at e1 e2 e3
    subst e1
    simp only [m_X0_begin_L83]
    rw [if_pos (by omega), Hp_some, Lq_inr]
    exact ⟨e2, e3⟩
theorem begin_sp {b : Nat} {τ : St} : Hp (m_X0_begin (39 + 7 * b) τ) (fun τ' => (∀ k j, ¬ Own1 b k j → τ' k j = τ k j) ∧ Fr0 b τ') := by
  obtain ⟨τ1, h1⟩ : ∃ τ1, τ1 = up (up (up (up (up (up (up (up (up (up (up τ (40 + 7 * b) 2 0) (39 + 7 * b) 4 (-1)) (39 + 7 * b) 5 0) (39 + 7 * b) 6 (-1)) (39 + 7 * b) 8 (-1)) (39 + 7 * b) 9 (τ (39 + 7 * b) 0)) (39 + 7 * b) 10 (-1)) (39 + 7 * b) 12 (-1)) (39 + 7 * b) 16 0) (39 + 7 * b) 17 0) (39 + 7 * b) 18 (-1) := ⟨_, rfl⟩
  have e0 : (up (up (up (up (up τ (40 + 7 * b) 2 0) (39 + 7 * b) 4 (-1)) (39 + 7 * b) 5 0) (39 + 7 * b) 6 (-1)) (39 + 7 * b) 8 (-1)) (39 + 7 * b) 0 = τ (39 + 7 * b) 0 := by
    simp (disch := omega) only [up_eq, up_cell, up_slot]
  rw [m_X0_begin, m_X3_clear, pt_s, bnd_s, bnd_s, show 39 + 7 * b + 1 = 40 + 7 * b by omega, pt_s, bnd_s, pt_s, bnd_s, pt_s, bnd_s, pt_s, bnd_s, e0, pt_s, bnd_s, pt_s, bnd_s, pt_s, bnd_s, pt_s, bnd_s, pt_s, bnd_s, pt_s, bnd_s, ← h1, Hp_bind]
  refine Hp_mono begin_62 ?_
  rintro τ2 ⟨w1, w2⟩
  rw [Hp_bind]
  refine Hp_mono begin_83 ?_
  rintro τ3 ⟨w3, w4⟩
  rw [Hp_some]
  have hv : ∀ k j, k ≠ 43 + 7 * b → k ≠ 44 + 7 * b → k ≠ 45 + 7 * b → τ3 k j = τ1 k j := fun k j n1 n2 n3 => (w3 k j n2 n3).trans (w1 k j n1)
  refine ⟨?_, ⟨?_, ?_, ?_, ?_⟩, ⟨?_, ?_, ?_⟩, ⟨?_, ?_, ?_⟩, ?_, w4⟩
  · intro k j n
    unfold Own1 at n
    rw [hv k j (by omega) (by omega) (by omega), h1]
    by_cases hk : k = 39 + 7 * b
    · subst hk
      simp (disch := omega) only [up_eq, up_cell, up_slot]
    · simp (disch := omega) only [up_eq, up_cell, up_slot]
  · rw [hv _ _ (by omega) (by omega) (by omega), h1]; simp (disch := omega) only [up_eq, up_cell, up_slot]
  · rw [hv _ _ (by omega) (by omega) (by omega), h1]; simp (disch := omega) only [up_eq, up_cell, up_slot]
  · rw [hv _ _ (by omega) (by omega) (by omega), h1]; simp (disch := omega) only [up_eq, up_cell, up_slot]
  · rw [hv _ _ (by omega) (by omega) (by omega), h1]; simp (disch := omega) only [up_eq, up_cell, up_slot]
  · rw [hv _ _ (by omega) (by omega) (by omega), hv _ _ (by omega) (by omega) (by omega), h1]; simp (disch := omega) only [up_eq, up_cell, up_slot]
  · rw [hv _ _ (by omega) (by omega) (by omega), h1]; simp (disch := omega) only [up_eq, up_cell, up_slot]
  · rw [hv _ _ (by omega) (by omega) (by omega), h1]; simp (disch := omega) only [up_eq, up_cell, up_slot]
  · rw [hv _ _ (by omega) (by omega) (by omega), h1]; simp (disch := omega) only [up_eq, up_cell, up_slot]
  · rw [hv _ _ (by omega) (by omega) (by omega), h1]; simp (disch := omega) only [up_eq, up_cell, up_slot]
  · rw [hv _ _ (by omega) (by omega) (by omega), h1]; simp (disch := omega) only [up_eq, up_cell, up_slot]
  · intro t ht; rw [w3 _ _ (by omega) (by omega)]; exact w2 t ht
theorem Fr0_cg {b : Nat} {τ τ' : St} (h : Fr0 b τ) (hc : ∀ k j, 39 + 7 * b ≤ k → k ≤ 45 + 7 * b → τ' k j = τ k j) : Fr0 b τ' := by
  obtain ⟨⟨h1, h2, h3, h4⟩, ⟨h5, h6, h7⟩, ⟨h8, h9, h10⟩, h11, h12⟩ := h
  refine ⟨⟨?_, ?_, ?_, ?_⟩, ⟨?_, ?_, ?_⟩, ⟨?_, ?_, ?_⟩, ?_, ?_⟩
  · rw [hc _ _ (by omega) (by omega)]; exact h1
  · rw [hc _ _ (by omega) (by omega)]; exact h2
  · rw [hc _ _ (by omega) (by omega)]; exact h3
  · rw [hc _ _ (by omega) (by omega)]; exact h4
  · rw [hc _ _ (by omega) (by omega), hc _ _ (by omega) (by omega)]; exact h5
  · rw [hc _ _ (by omega) (by omega)]; exact h6
  · rw [hc _ _ (by omega) (by omega)]; exact h7
  · rw [hc _ _ (by omega) (by omega)]; exact h8
  · rw [hc _ _ (by omega) (by omega)]; exact h9
  · rw [hc _ _ (by omega) (by omega)]; exact h10
  · intro t ht; rw [hc _ _ (by omega) (by omega)]; exact h11 t ht
  · intro i hi; rw [hc _ _ (by omega) (by omega), hc _ _ (by omega) (by omega)]; exact h12 i hi
theorem clear_66 {b : Nat} {τ : St} (hb : b < 8) : Hp (lp (fun a => m_X8_clear_L66 (b : Int) a.1 a.2) (0, τ)) (fun τ' => (∀ k j, k ≠ 133 + b → τ' k j = τ k j) ∧ ∀ e : Nat, e < 8 → τ' (133 + b) e = -1) := by
  refine Hp_up (fun j (z : Int × St) => z.1 = (j : Int) ∧ (∀ k i, k ≠ 133 + b → z.2 k i = τ k i) ∧ ∀ e : Nat, e < j → z.2 (133 + b) e = -1) 0 8 (by omega) (by omega) ⟨rfl, fun _ _ _ => rfl, fun t h => by omega⟩ ?_ ?_
  · rintro j ⟨x, σ⟩ - hj ⟨e1, e2, e3⟩
    simp only at e1 e2 e3
    subst e1
    simp only [m_X8_clear_L66]
    rw [if_neg (by omega), rr_ok (by omega) (by omega), bnd_s, Int.toNat_natCast, rf_met hb, wt_ok (by omega) (by omega), bnd_s, Int.toNat_natCast, nx1 (by omega), Hp_some, Lq_inl]
    refine ⟨rfl, fun k i hk => ?_, fun t ht => ?_⟩
    · simp only; rw [up_cell hk]; exact e2 k i hk
    · simp only
      by_cases htj : t = j
      · subst htj; rw [up_eq]
      · rw [up_slot htj]; exact e3 t (by omega)
  · rintro ⟨x, σ⟩ ⟨e1, e2, e3⟩
    simp only at e1 e2 e3
    subst e1
    simp only [m_X8_clear_L66]
    rw [if_pos (by omega), Hp_some, Lq_inr]
    exact ⟨e2, e3⟩
theorem clear_12 {τ : St} : Hp (lp (fun a => m_X8_clear_L12 a.1 a.2) (0, τ)) (fun τ' => (∀ k j, k ≠ 130 → k ≠ 131 → τ' k j = τ k j) ∧ ∀ s : Nat, s < 10 → τ' 130 s = 0 ∧ τ' 131 s = 0) := by
  refine Hp_up (fun j (z : Int × St) => z.1 = (j : Int) ∧ (∀ k i, k ≠ 130 → k ≠ 131 → z.2 k i = τ k i) ∧ ∀ s : Nat, s < j → z.2 130 s = 0 ∧ z.2 131 s = 0) 0 10 (by omega) (by omega) ⟨rfl, fun _ _ _ _ => rfl, fun t h => by omega⟩ ?_ ?_
  · rintro j ⟨x, σ⟩ - hj ⟨e1, e2, e3⟩
    simp only at e1 e2 e3
    subst e1
    simp only [m_X8_clear_L12]
    rw [if_neg (by omega), wt_ok (by omega) (by omega), bnd_s, Int.toNat_natCast, wt_ok (by omega) (by omega), bnd_s, Int.toNat_natCast, nx1 (by omega), Hp_some, Lq_inl]
    refine ⟨rfl, fun k i hk hk2 => ?_, fun t ht => ?_⟩
    · simp only; rw [up_cell hk2, up_cell hk]; exact e2 k i hk hk2
    · simp only
      by_cases htj : t = j
      · subst htj; rw [up_cell (by omega), up_eq, up_eq]; exact ⟨rfl, rfl⟩
      · rw [up_cell (by omega), up_slot htj, up_slot htj, up_cell (by omega)]; exact e3 t (by omega)
  · rintro ⟨x, σ⟩ ⟨e1, e2, e3⟩
    simp only at e1 e2 e3
    subst e1
    simp only [m_X8_clear_L12]
    rw [if_pos (by omega), Hp_some, Lq_inr]
    exact ⟨e2, e3⟩
/-- what clear leaves -/
def ClrP (τ τ' : St) : Prop := (∀ k j, ¬ RunC k j → τ' k j = τ k j) ∧ (τ' 129 6 = 0 ∧ τ' 129 13 = 0) ∧ (∀ s : Nat, s < 10 → τ' 130 s = 0 ∧ τ' 131 s = 0) ∧ ∀ b : Nat, b < 8 → Fr0 b τ' ∧ ∀ e : Nat, e < 8 → τ' (133 + b) e = -1
theorem clear_sp {τ : St} : Hp (m_X8_clear τ) (ClrP τ) := by
  rw [m_X8_clear, pt_s, bnd_s, pt_s, bnd_s, Hp_bind]
  refine Hp_mono clear_12 ?_
  rintro τ1 ⟨w1, w2⟩
  rw [Hp_bind]
  simp only [Hp_some]
  refine Hp_up (fun j (z : Int × St) => z.1 = (j : Int) ∧ (∀ k i, ¬ (39 ≤ k ∧ k ≤ 94 ∧ ((3 < i ∧ i ≤ 18) ∨ (k - 39) % 7 ≠ 0)) → ¬ (133 ≤ k ∧ k ≤ 140) → z.2 k i = τ1 k i) ∧ ∀ b : Nat, b < j → Fr0 b z.2 ∧ ∀ e : Nat, e < 8 → z.2 (133 + b) e = -1) 0 8 (by omega) (by omega) ⟨rfl, fun _ _ _ _ => rfl, fun t h => by omega⟩ ?_ ?_
  · rintro j ⟨x, σ⟩ - hj ⟨e1, e2, e3⟩
    simp only at e1 e2 e3
    subst e1
    simp only [m_X8_clear_L40]
    rw [if_neg (by omega), if_neg (by omega), rr_ok (by omega) (by omega), bnd_s, Int.toNat_natCast, rf_ag hj, Hp_bind]
    refine Hp_mono begin_sp ?_
    rintro τ2 ⟨w3, w4⟩
    rw [Hp_bind]
    refine Hp_mono (clear_66 hj) ?_
    rintro τ3 ⟨w5, w6⟩
    rw [Hp_some, Lq_inl, nx1 (by omega)]
    refine ⟨rfl, fun k i n1 n2 => ?_, fun b hb => ?_⟩
    · simp only
      rw [w5 k i (by omega), w3 k i (by unfold Own1; omega)]; exact e2 k i n1 n2
    · simp only
      by_cases hbj : b = j
      · subst hbj
        exact ⟨Fr0_cg w4 (fun k i _ _ => w5 k i (by omega)), w6⟩
      · obtain ⟨g1, g2⟩ := e3 b (by omega)
        refine ⟨Fr0_cg g1 (fun k i _ _ => ?_), fun e he => ?_⟩
        · rw [w5 k i (by omega), w3 k i (by unfold Own1; omega)]
        · rw [w5 _ _ (by omega), w3 _ _ (by unfold Own1; omega)]; exact g2 e he
  · rintro ⟨x, σ⟩ ⟨e1, e2, e3⟩
    simp only at e1 e2 e3
    subst e1
    simp only [m_X8_clear_L40]
    rw [if_pos (by omega), Hp_some, Lq_inr]
    refine ⟨?_, ⟨?_, ?_⟩, ?_, e3⟩
    · intro k i n
      unfold RunC at n
      rw [e2 k i (by omega) (by omega), w1 k i (by omega) (by omega)]
      by_cases hk : k = 129
      · subst hk; rw [up_slot (by omega), up_slot (by omega)]
      · rw [up_cell hk, up_cell hk]
    · rw [e2 _ _ (by omega) (by omega), w1 _ _ (by omega) (by omega), up_slot (by omega), up_eq]
    · rw [e2 _ _ (by omega) (by omega), w1 _ _ (by omega) (by omega), up_eq]
    · intro s hs
      rw [e2 _ _ (by omega) (by omega), e2 _ _ (by omega) (by omega)]; exact w2 s hs
