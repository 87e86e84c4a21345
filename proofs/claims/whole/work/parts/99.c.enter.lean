/-! the beginning of a run: codes entered; the model's beginning -/
/-- agent b as it stands at the beginning -/
def FrE (b : Nat) (τ : St) : Prop := (τ (40 + 7 * b) 2 = 0 ∧ τ (39 + 7 * b) 5 = 0 ∧ τ (39 + 7 * b) 6 = -1 ∧ τ (39 + 7 * b) 8 = -1) ∧ (τ (39 + 7 * b) 9 = τ (39 + 7 * b) 0 ∧ τ (39 + 7 * b) 10 = -1 ∧ τ (39 + 7 * b) 12 = -1) ∧ (τ (39 + 7 * b) 16 = 0 ∧ τ (39 + 7 * b) 17 = 0) ∧ (∀ i : Nat, i < 8 → τ (44 + 7 * b) i = (if tb (τ (39 + 7 * b) 1) i = true then 0 else -1) ∧ τ (45 + 7 * b) i = -1) ∧
  ((τ (39 + 7 * b) 2 = -1 ∧ τ (39 + 7 * b) 18 = 0) ∨ (∃ c : Nat, τ (39 + 7 * b) 2 = (c : Int) ∧ τ (39 + 7 * b) 18 = -1 ∧ τ (39 + 7 * b) 4 = τ 29 c))
theorem FrE_cg {b : Nat} {τ τ' : St} (h : FrE b τ) (hc : ∀ k j, 39 + 7 * b ≤ k → k ≤ 45 + 7 * b → τ' k j = τ k j) (h29 : τ' 29 = τ 29) : FrE b τ' := by
  obtain ⟨⟨h1, h2, h3, h4⟩, ⟨h5, h6, h7⟩, ⟨h8, h9⟩, h11, h12⟩ := h
  refine ⟨⟨?_, ?_, ?_, ?_⟩, ⟨?_, ?_, ?_⟩, ⟨?_, ?_⟩, ?_, ?_⟩
  · rw [hc _ _ (by omega) (by omega)]; exact h1
  · rw [hc _ _ (by omega) (by omega)]; exact h2
  · rw [hc _ _ (by omega) (by omega)]; exact h3
  · rw [hc _ _ (by omega) (by omega)]; exact h4
  · rw [hc _ _ (by omega) (by omega), hc _ _ (by omega) (by omega)]; exact h5
  · rw [hc _ _ (by omega) (by omega)]; exact h6
  · rw [hc _ _ (by omega) (by omega)]; exact h7
  · rw [hc _ _ (by omega) (by omega)]; exact h8
  · rw [hc _ _ (by omega) (by omega)]; exact h9
  · intro i hi; rw [hc (44 + 7 * b) _ (by omega) (by omega), hc (45 + 7 * b) _ (by omega) (by omega), hc (39 + 7 * b) _ (by omega) (by omega)]; exact h11 i hi
  · rw [hc (39 + 7 * b) _ (by omega) (by omega), hc (39 + 7 * b) _ (by omega) (by omega), hc (39 + 7 * b) _ (by omega) (by omega), h29]; exact h12
theorem enter_2 {b : Nat} {τ : St} (h : ∀ i : Nat, i < 8 → τ (44 + 7 * b) i = -1) : Hp (lp (fun a => m_X0_enter_L2 (39 + 7 * b) a.1 a.2) (0, τ)) (fun τ' => (∀ k j, k ≠ 44 + 7 * b → τ' k j = τ k j) ∧ ∀ i : Nat, i < 8 → τ' (44 + 7 * b) i = (if tb (τ (39 + 7 * b) 1) i = true then 0 else -1)) := by
  refine Hp_up (fun j (z : Int × St) => z.1 = (j : Int) ∧ (∀ k i, k ≠ 44 + 7 * b → z.2 k i = τ k i) ∧ ∀ i : Nat, i < 8 → z.2 (44 + 7 * b) i = (if i < j ∧ tb (τ (39 + 7 * b) 1) i = true then 0 else -1)) 0 8 (by omega) (by omega) ⟨rfl, fun _ _ _ => rfl, fun i hi => by rw [if_neg (by omega)]; exact h i hi⟩ ?_ ?_
  · rintro j ⟨x, σ⟩ - hj ⟨e1, e2, e3⟩
    simp only at e1 e2 e3
    subst e1
    simp only [m_X0_enter_L2]
    rw [if_neg (by omega), e2 (39 + 7 * b) 1 (by omega), bit_yes (by omega)]
    by_cases hb : tb (τ (39 + 7 * b) 1) j = true
    · rw [if_pos hb, if_neg (by decide), wt_ok (by omega) (by omega), bnd_s, Int.toNat_natCast, nx1 (by omega), Hp_some, Lq_inl, show 39 + 7 * b + 5 = 44 + 7 * b by omega]
      refine ⟨rfl, fun k i hk => ?_, fun i hi => ?_⟩
      · simp only; rw [up_cell hk]; exact e2 k i hk
      · simp only
        by_cases hij : i = j
        · subst hij; rw [up_eq, if_pos ⟨by omega, hb⟩]
        · rw [up_slot hij, e3 i hi]
          by_cases hlt : i < j
          · by_cases ht : tb (τ (39 + 7 * b) 1) i = true
            · rw [if_pos ⟨hlt, ht⟩, if_pos ⟨by omega, ht⟩]
            · rw [if_neg (fun q => ht q.2), if_neg (fun q => ht q.2)]
          · rw [if_neg (fun q => hlt q.1), if_neg (fun q => by omega)]
    · rw [if_neg hb, if_pos rfl, nx1 (by omega), Hp_some, Lq_inl]
      refine ⟨rfl, e2, fun i hi => ?_⟩
      simp only
      rw [e3 i hi]
      by_cases hij : i = j
      · subst hij; rw [if_neg (fun q => hb q.2), if_neg (fun q => hb q.2)]
      · by_cases ht : tb (τ (39 + 7 * b) 1) i = true
        · by_cases hlt : i < j
          · rw [if_pos ⟨hlt, ht⟩, if_pos ⟨by omega, ht⟩]
          · rw [if_neg (fun q => hlt q.1), if_neg (fun q => by omega)]
        · rw [if_neg (fun q => ht q.2), if_neg (fun q => ht q.2)]
  · rintro ⟨x, σ⟩ ⟨e1, e2, e3⟩
    simp only at e1 e2 e3
    subst e1
    simp only [m_X0_enter_L2]
    rw [if_pos (by omega), Hp_some, Lq_inr]
    refine ⟨e2, fun i hi => ?_⟩
    rw [e3 i hi]
    by_cases ht : tb (τ (39 + 7 * b) 1) i = true
    · rw [if_pos ⟨hi, ht⟩, if_pos ht]
    · rw [if_neg (fun q => ht q.2), if_neg ht]
theorem enter_sp {b : Nat} {τ : St} {x : Int} (h : Fr0 b τ) (hx : (τ (39 + 7 * b) 2 = -1 ∧ x = -1) ∨ (∃ c : Nat, τ (39 + 7 * b) 2 = (c : Int) ∧ x = τ 29 c ∧ x ≠ -1)) : Hp (m_X0_enter (39 + 7 * b) x τ) (fun τ' => (∀ k j, ¬ Own1 b k j → τ' k j = τ k j) ∧ FrE b τ') := by
  obtain ⟨⟨h1, h2, h3, h4⟩, ⟨h5, h6, h7⟩, ⟨h8, h9, h10⟩, h11, h12⟩ := h
  rw [m_X0_enter, Hp_bind]
  refine Hp_mono (enter_2 (fun i hi => (h12 i hi).1)) ?_
  rintro τ1 ⟨w1, w2⟩
  rw [pt_s, bnd_s]
  have fin : ∀ τ2 : St, (∀ k j, k ≠ 44 + 7 * b → ¬ (k = 39 + 7 * b ∧ (j = 4 ∨ j = 18)) → τ2 k j = τ k j) → (∀ i, τ2 (44 + 7 * b) i = τ1 (44 + 7 * b) i) → ((τ (39 + 7 * b) 2 = -1 ∧ τ2 (39 + 7 * b) 18 = 0) ∨ (∃ c : Nat, τ (39 + 7 * b) 2 = (c : Int) ∧ τ2 (39 + 7 * b) 18 = -1 ∧ τ2 (39 + 7 * b) 4 = τ 29 c)) → (∀ k j, ¬ Own1 b k j → τ2 k j = τ k j) ∧ FrE b τ2 := by
    intro τ2 g1 g2 g3
    refine ⟨fun k j n => g1 k j (by unfold Own1 at n; omega) (by unfold Own1 at n; omega), ⟨?_, ?_, ?_, ?_⟩, ⟨?_, ?_, ?_⟩, ⟨?_, ?_⟩, ?_, ?_⟩
    · rw [g1 _ _ (by omega) (by omega)]; exact h1
    · rw [g1 _ _ (by omega) (by omega)]; exact h2
    · rw [g1 _ _ (by omega) (by omega)]; exact h3
    · rw [g1 _ _ (by omega) (by omega)]; exact h4
    · rw [g1 _ _ (by omega) (by omega), g1 _ _ (by omega) (by omega)]; exact h5
    · rw [g1 _ _ (by omega) (by omega)]; exact h6
    · rw [g1 _ _ (by omega) (by omega)]; exact h7
    · rw [g1 _ _ (by omega) (by omega)]; exact h8
    · rw [g1 _ _ (by omega) (by omega)]; exact h9
    · intro i hi
      rw [g2, g1 (39 + 7 * b) 1 (by omega) (by omega), g1 (45 + 7 * b) i (by omega) (by omega)]
      exact ⟨w2 i hi, (h12 i hi).2⟩
    · rw [g1 (39 + 7 * b) 2 (by omega) (by omega)]
      rcases g3 with g3 | ⟨c, g3, g4, g5⟩
      · exact Or.inl g3
      · exact Or.inr ⟨c, g3, g4, by rw [g5, g1 29 c (by omega) (by omega)]⟩
  rcases hx with ⟨q1, q2⟩ | ⟨c, q1, q2, q3⟩
  · rw [if_pos q2, pt_s, bnd_s, Hp_some]
    refine fin _ ?_ ?_ (Or.inl ⟨q1, up_eq ..⟩)
    · intro k j n1 n2
      by_cases hk : k = 39 + 7 * b
      · subst hk; rw [up_slot (by omega), up_slot (by omega)]; exact w1 _ _ n1
      · rw [up_cell hk, up_cell hk]; exact w1 _ _ n1
    · intro i; rw [up_cell (by omega), up_cell (by omega)]
  · rw [if_neg q3, Hp_some]
    refine fin _ ?_ ?_ (Or.inr ⟨c, q1, ?_, ?_⟩)
    · intro k j n1 n2
      by_cases hk : k = 39 + 7 * b
      · subst hk; rw [up_slot (by omega)]; exact w1 _ _ n1
      · rw [up_cell hk]; exact w1 _ _ n1
    · intro i; rw [up_cell (by omega)]
    · rw [up_slot (by omega), w1 _ _ (by omega)]; exact h10
    · rw [up_eq]; exact q2
/-! the model's beginning -/
theorem run_44 {τ : St} : Hp (lp (fun a => m_X12_run_L44 a.1 a.2) (0, τ)) (fun τ' => (∀ k j, k ≠ 202 → k ≠ 203 → k ≠ 207 → τ' k j = τ k j) ∧ ∀ i : Nat, i < 64 → τ' 202 i = -1 ∧ τ' 203 i = -1 ∧ τ' 207 i = -1) := by
  refine Hp_up (fun j (z : Int × St) => z.1 = (j : Int) ∧ (∀ k i, k ≠ 202 → k ≠ 203 → k ≠ 207 → z.2 k i = τ k i) ∧ ∀ i : Nat, i < j → z.2 202 i = -1 ∧ z.2 203 i = -1 ∧ z.2 207 i = -1) 0 64 (by omega) (by omega) ⟨rfl, fun _ _ _ _ _ => rfl, fun t h => by omega⟩ ?_ ?_
  · rintro j ⟨x, σ⟩ - hj ⟨e1, e2, e3⟩
    simp only at e1 e2 e3
    subst e1
    simp only [m_X12_run_L44]
    rw [if_neg (by omega), wt_ok (by omega) (by omega), bnd_s, Int.toNat_natCast, wt_ok (by omega) (by omega), bnd_s, Int.toNat_natCast, wt_ok (by omega) (by omega), bnd_s, Int.toNat_natCast, nx1 (by omega), Hp_some, Lq_inl]
    refine ⟨rfl, fun k i n1 n2 n3 => ?_, fun t ht => ?_⟩
    · simp only; rw [up_cell n3, up_cell n2, up_cell n1]; exact e2 k i n1 n2 n3
    · simp only
      by_cases htj : t = j
      · subst htj; simp (disch := decide) only [up_eq, up_cell, true_and, and_true]
      · simp (disch := omega) only [up_slot, up_cell]; exact e3 t (by omega)
  · rintro ⟨x, σ⟩ ⟨e1, e2, e3⟩
    simp only at e1 e2 e3
    subst e1
    simp only [m_X12_run_L44]
    rw [if_pos (by omega), Hp_some, Lq_inr]
    exact ⟨e2, e3⟩
theorem run_79 {τ : St} : Hp (lp (fun a => m_X12_run_L79 a.1 a.2) (0, τ)) (fun τ' => (∀ k j, k ≠ 205 → τ' k j = τ k j) ∧ ∀ i : Nat, i < 10 → τ' 205 i = 0) := by
  refine Hp_up (fun j (z : Int × St) => z.1 = (j : Int) ∧ (∀ k i, k ≠ 205 → z.2 k i = τ k i) ∧ ∀ i : Nat, i < j → z.2 205 i = 0) 0 10 (by omega) (by omega) ⟨rfl, fun _ _ _ => rfl, fun t h => by omega⟩ ?_ ?_
  · rintro j ⟨x, σ⟩ - hj ⟨e1, e2, e3⟩
    simp only at e1 e2 e3
    subst e1
    simp only [m_X12_run_L79]
    rw [if_neg (by omega), wt_ok (by omega) (by omega), bnd_s, Int.toNat_natCast, nx1 (by omega), Hp_some, Lq_inl]
    refine ⟨rfl, fun k i n1 => ?_, fun t ht => ?_⟩
    · simp only; rw [up_cell n1]; exact e2 k i n1
    · simp only
      by_cases htj : t = j
      · subst htj; rw [up_eq]
      · rw [up_slot htj]; exact e3 t (by omega)
  · rintro ⟨x, σ⟩ ⟨e1, e2, e3⟩
    simp only at e1 e2 e3
    subst e1
    simp only [m_X12_run_L79]
    rw [if_pos (by omega), Hp_some, Lq_inr]
    exact ⟨e2, e3⟩
theorem run_100 {τ : St} : Hp (lp (fun a => m_X12_run_L100 a.1 a.2) (0, τ)) (fun τ' => (∀ k j, k ≠ 206 → τ' k j = τ k j) ∧ ∀ i : Nat, i < 80 → τ' 206 i = -1) := by
  refine Hp_up (fun j (z : Int × St) => z.1 = (j : Int) ∧ (∀ k i, k ≠ 206 → z.2 k i = τ k i) ∧ ∀ i : Nat, i < j → z.2 206 i = -1) 0 80 (by omega) (by omega) ⟨rfl, fun _ _ _ => rfl, fun t h => by omega⟩ ?_ ?_
  · rintro j ⟨x, σ⟩ - hj ⟨e1, e2, e3⟩
    simp only at e1 e2 e3
    subst e1
    simp only [m_X12_run_L100]
    rw [if_neg (by omega), wt_ok (by omega) (by omega), bnd_s, Int.toNat_natCast, nx1 (by omega), Hp_some, Lq_inl]
    refine ⟨rfl, fun k i n1 => ?_, fun t ht => ?_⟩
    · simp only; rw [up_cell n1]; exact e2 k i n1
    · simp only
      by_cases htj : t = j
      · subst htj; rw [up_eq]
      · rw [up_slot htj]; exact e3 t (by omega)
  · rintro ⟨x, σ⟩ ⟨e1, e2, e3⟩
    simp only at e1 e2 e3
    subst e1
    simp only [m_X12_run_L100]
    rw [if_pos (by omega), Hp_some, Lq_inr]
    exact ⟨e2, e3⟩
theorem run_131 {b : Nat} {τ : St} (hb : b < 8) (h : ∀ i : Nat, i < 8 → τ 202 (8 * b + i) = -1) : Hp (lp (fun a => m_X12_run_L131 (b : Int) a.1 a.2) (0, τ)) (fun τ' => (∀ k j, ¬ (k = 202 ∧ 8 * b ≤ j ∧ j < 8 * b + 8) → τ' k j = τ k j) ∧ ∀ i : Nat, i < 8 → τ' 202 (8 * b + i) = (if tb (τ 191 b) i = true then 0 else -1)) := by
  refine Hp_up (fun j (z : Int × St) => z.1 = (j : Int) ∧ (∀ k i, ¬ (k = 202 ∧ 8 * b ≤ i ∧ i < 8 * b + 8) → z.2 k i = τ k i) ∧ ∀ i : Nat, i < 8 → z.2 202 (8 * b + i) = (if i < j ∧ tb (τ 191 b) i = true then 0 else -1)) 0 8 (by omega) (by omega) ⟨rfl, fun _ _ _ => rfl, fun i hi => by rw [if_neg (by omega)]; exact h i hi⟩ ?_ ?_
  · rintro j ⟨x, σ⟩ - hj ⟨e1, e2, e3⟩
    simp only at e1 e2 e3
    subst e1
    simp only [m_X12_run_L131]
    rw [if_neg (by omega), rd_ok (by omega) (by omega), bnd_s, Int.toNat_natCast, e2 191 b (by omega), bit_yes (by omega)]
    by_cases ht : tb (τ 191 b) j = true
    · rw [if_pos ht, if_pos rfl, ix8 (by omega) (by omega), wt_ok (by omega) (by omega), bnd_s, Int.toNat_natCast, nx1 (by omega), Hp_some, Lq_inl]
      refine ⟨rfl, fun k i hk => ?_, fun i hi => ?_⟩
      · simp only
        by_cases hk2 : k = 202
        · subst hk2; rw [up_slot (by omega)]; exact e2 _ _ hk
        · rw [up_cell hk2]; exact e2 _ _ hk
      · simp only
        by_cases hij : i = j
        · subst hij; rw [up_eq, if_pos ⟨by omega, ht⟩]
        · rw [up_slot (by omega), e3 i hi]
          by_cases ht2 : tb (τ 191 b) i = true
          · by_cases hlt : i < j
            · rw [if_pos ⟨hlt, ht2⟩, if_pos ⟨by omega, ht2⟩]
            · rw [if_neg (fun q => hlt q.1), if_neg (fun q => by omega)]
          · rw [if_neg (fun q => ht2 q.2), if_neg (fun q => ht2 q.2)]
    · rw [if_neg ht, if_neg (by decide), nx1 (by omega), Hp_some, Lq_inl]
      refine ⟨rfl, e2, fun i hi => ?_⟩
      simp only
      rw [e3 i hi]
      by_cases hij : i = j
      · subst hij; rw [if_neg (fun q => ht q.2), if_neg (fun q => ht q.2)]
      · by_cases ht2 : tb (τ 191 b) i = true
        · by_cases hlt : i < j
          · rw [if_pos ⟨hlt, ht2⟩, if_pos ⟨by omega, ht2⟩]
          · rw [if_neg (fun q => hlt q.1), if_neg (fun q => by omega)]
        · rw [if_neg (fun q => ht2 q.2), if_neg (fun q => ht2 q.2)]
  · rintro ⟨x, σ⟩ ⟨e1, e2, e3⟩
    simp only at e1 e2 e3
    subst e1
    simp only [m_X12_run_L131]
    rw [if_pos (by omega), Hp_some, Lq_inr]
    refine ⟨e2, fun i hi => ?_⟩
    rw [e3 i hi]
    by_cases ht : tb (τ 191 b) i = true
    · rw [if_pos ⟨hi, ht⟩, if_pos ht]
    · rw [if_neg (fun q => ht q.2), if_neg ht]
/-- the model's agent b at the beginning -/
def FrB (L b : Nat) (τ : St) : Prop := (∀ i : Nat, i < 8 → τ 202 (8 * b + i) = (if tb (τ 191 b) i = true then 0 else -1)) ∧ (τ 204 b = 0 ∧ τ 209 b = 0 ∧ τ 218 b = 0 ∧ τ 213 b = τ 190 b) ∧
  ((τ 192 b = -1 ∧ τ 211 b = 4 ∧ τ 208 b = 0) ∨ (∃ c : Nat, τ 192 b = (c : Int) ∧ τ 211 b = 0 ∧ τ 208 b = -1 ∧ τ 212 b = τ 180 (8 * L + c)))
theorem run_121 {L A : Nat} {τ : St} (hL : L < 2) (hA : A ≤ 8) (h35 : τ 170 35 = (A : Int)) (h17 : τ 170 17 = (L : Int)) (h202 : ∀ i : Nat, i < 64 → τ 202 i = -1) (hc : ∀ b : Nat, b < A → τ 192 b = -1 ∨ ∃ c : Nat, τ 192 b = (c : Int) ∧ c < 8) : Hp (lp (fun a => m_X12_run_L121 a.1 a.2) (0, τ)) (fun τ' => (∀ k j, ¬ (k = 202 ∨ k = 204 ∨ k = 208 ∨ k = 209 ∨ k = 211 ∨ k = 212 ∨ k = 213 ∨ k = 218) → τ' k j = τ k j) ∧ ∀ b : Nat, b < A → FrB L b τ') := by
  refine Hp_up (fun j (z : Int × St) => z.1 = (j : Int) ∧ (∀ k i, ¬ (k = 202 ∨ k = 204 ∨ k = 208 ∨ k = 209 ∨ k = 211 ∨ k = 212 ∨ k = 213 ∨ k = 218) → z.2 k i = τ k i) ∧ (∀ i : Nat, 8 * j ≤ i → i < 64 → z.2 202 i = -1) ∧ ∀ b : Nat, b < j → FrB L b z.2) 0 A (by omega) (by omega) ⟨rfl, fun _ _ _ => rfl, fun i _ hi => h202 i hi, fun t h => by omega⟩ ?_ ?_
  · rintro j ⟨x, σ⟩ - hj ⟨e1, e2, e3, e4⟩
    simp only at e1 e2 e3 e4
    subst e1
    simp only [m_X12_run_L121]
    rw [if_neg (by rw [e2 170 35 (by omega), h35]; omega), Hp_bind]
    refine Hp_mono (run_131 (by omega) (fun i hi => e3 _ (by omega) (by omega))) ?_
    rintro τ1 ⟨w1, w2⟩
    have w1' : ∀ k i, ¬ (k = 202 ∨ k = 204 ∨ k = 208 ∨ k = 209 ∨ k = 211 ∨ k = 212 ∨ k = 213 ∨ k = 218) → τ1 k i = τ k i := fun k i n => (w1 k i (by omega)).trans (e2 k i n)
    have v190 : τ1 190 j = τ 190 j := w1' _ _ (by omega)
    have v192 : τ1 192 j = τ 192 j := w1' _ _ (by omega)
    have v180 : ∀ i, τ1 180 i = τ 180 i := fun i => w1' _ _ (by omega)
    have v17 : τ1 170 17 = (L : Int) := (w1' _ _ (by omega)).trans h17
    rw [wt_ok (by omega) (by omega), bnd_s, Int.toNat_natCast, wt_ok (by omega) (by omega), bnd_s, Int.toNat_natCast, wt_ok (by omega) (by omega), bnd_s, Int.toNat_natCast, rd_ok (by omega) (by omega), bnd_s, Int.toNat_natCast, up_cell (by decide), up_cell (by decide), up_cell (by decide), v190, wt_ok (by omega) (by omega), bnd_s, Int.toNat_natCast, rd_ok (by omega) (by omega), bnd_s, Int.toNat_natCast, up_cell (by decide), up_cell (by decide), up_cell (by decide), up_cell (by decide), v192]
    -- what is left to say of the state at the end
    have fin : ∀ τ2 : St, (∀ k i, ¬ ((k = 204 ∨ k = 208 ∨ k = 209 ∨ k = 211 ∨ k = 212 ∨ k = 213 ∨ k = 218) ∧ i = j) → τ2 k i = τ1 k i) → (τ2 204 j = 0 ∧ τ2 209 j = 0 ∧ τ2 218 j = 0 ∧ τ2 213 j = τ 190 j) → ((τ 192 j = -1 ∧ τ2 211 j = 4 ∧ τ2 208 j = 0) ∨ (∃ c : Nat, τ 192 j = (c : Int) ∧ τ2 211 j = 0 ∧ τ2 208 j = -1 ∧ τ2 212 j = τ 180 (8 * L + c))) → (∀ k i, ¬ (k = 202 ∨ k = 204 ∨ k = 208 ∨ k = 209 ∨ k = 211 ∨ k = 212 ∨ k = 213 ∨ k = 218) → τ2 k i = τ k i) ∧ (∀ i : Nat, 8 * (j + 1) ≤ i → i < 64 → τ2 202 i = -1) ∧ ∀ b : Nat, b < j + 1 → FrB L b τ2 := by
      intro τ2 g1 g2 g3
      refine ⟨fun k i n => (g1 k i (by omega)).trans (w1' k i n), fun i hi1 hi2 => ?_, fun b hb => ?_⟩
      · rw [g1 _ _ (by omega), w1 _ _ (by omega)]; exact e3 i (by omega) hi2
      · by_cases hbj : b = j
        · subst hbj
          refine ⟨fun i hi => ?_, ⟨g2.1, g2.2.1, g2.2.2.1, ?_⟩, ?_⟩
          · rw [g1 _ _ (by omega), w2 i hi, g1 191 _ (by omega), w1 191 _ (by omega)]
          · rw [g2.2.2.2, g1 190 _ (by omega), v190]
          · rw [g1 192 _ (by omega), v192]
            rcases g3 with g3 | ⟨c, q1, q2, q3, q4⟩
            · exact Or.inl g3
            · exact Or.inr ⟨c, q1, q2, q3, by rw [q4, g1 180 _ (by omega), v180]⟩
        · obtain ⟨b1, ⟨b2, b3, b4, b5⟩, b6⟩ := e4 b (by omega)
          have cg : ∀ k i, ¬ (k = 202 ∧ 8 * j ≤ i ∧ i < 8 * j + 8) → i ≠ j ∨ ¬ (k = 204 ∨ k = 208 ∨ k = 209 ∨ k = 211 ∨ k = 212 ∨ k = 213 ∨ k = 218) → τ2 k i = σ k i := fun k i n1 n2 => (g1 k i (by omega)).trans (w1 k i n1)
          refine ⟨fun i hi => ?_, ⟨?_, ?_, ?_, ?_⟩, ?_⟩
          · rw [cg _ _ (by omega) (by omega), cg 191 _ (by omega) (by omega)]; exact b1 i hi
          · rw [cg _ _ (by omega) (by omega)]; exact b2
          · rw [cg _ _ (by omega) (by omega)]; exact b3
          · rw [cg _ _ (by omega) (by omega)]; exact b4
          · rw [cg _ _ (by omega) (by omega), cg _ _ (by omega) (by omega)]; exact b5
          · rw [cg _ _ (by omega) (by omega), cg _ _ (by omega) (by omega), cg _ _ (by omega) (by omega), cg _ _ (by omega) (by omega)]
            rcases b6 with b6 | ⟨c, q1, q2, q3, q4⟩
            · exact Or.inl b6
            · exact Or.inr ⟨c, q1, q2, q3, by rw [q4, cg _ _ (by omega) (by omega)]⟩
    rcases hc j hj with hz | ⟨c, hcc, hc8⟩
    · rw [if_pos hz, m_X12_run_J222, wt_ok (by omega) (by omega), bnd_s, Int.toNat_natCast, rd_ok (by omega) (by omega), bnd_s, Int.toNat_natCast, up_cell (by decide), up_cell (by decide), up_cell (by decide), up_cell (by decide), up_cell (by decide), v192, if_pos hz, m_X12_run_J243, wt_ok (by omega) (by omega), bnd_s, Int.toNat_natCast, rd_ok (by omega) (by omega), bnd_s, Int.toNat_natCast, up_cell (by decide), up_cell (by decide), up_cell (by decide), up_cell (by decide), up_cell (by decide), up_cell (by decide), v192, if_pos hz, wt_ok (by omega) (by omega), bnd_s, Int.toNat_natCast, Hp_some, Lq_inl, nx1 (by omega)]
      refine ⟨rfl, fin _ ?_ ⟨?_, ?_, ?_, ?_⟩ (Or.inl ⟨hz, ?_, ?_⟩)⟩
      · intro k i n
        simp only
        by_cases hij : i = j
        · rw [up_cell (by omega), up_cell (by omega), up_cell (by omega), up_cell (by omega), up_cell (by omega), up_cell (by omega), up_cell (by omega)]
        · rw [up_slot hij, up_slot hij, up_slot hij, up_slot hij, up_slot hij, up_slot hij, up_slot hij]
      all_goals (simp (disch := decide) only [up_eq, up_cell])
    · have hne : τ 192 j ≠ -1 := by omega
      rw [if_neg hne, m_X12_run_J222, wt_ok (by omega) (by omega), bnd_s, Int.toNat_natCast, rd_ok (by omega) (by omega), bnd_s, Int.toNat_natCast, up_cell (by decide), up_cell (by decide), up_cell (by decide), up_cell (by decide), up_cell (by decide), v192, if_neg hne, m_X12_run_J243, wt_ok (by omega) (by omega), bnd_s, Int.toNat_natCast, rd_ok (by omega) (by omega), bnd_s, Int.toNat_natCast, up_cell (by decide), up_cell (by decide), up_cell (by decide), up_cell (by decide), up_cell (by decide), up_cell (by decide), v192, if_neg hne, bnd_s, hcc, up_cell (by decide), up_cell (by decide), up_cell (by decide), up_cell (by decide), up_cell (by decide), up_cell (by decide), v17, ix8 (by omega) (by omega), rd_ok (by omega) (by omega), bnd_s, Int.toNat_natCast, up_cell (by decide), up_cell (by decide), up_cell (by decide), up_cell (by decide), up_cell (by decide), up_cell (by decide), v180, wt_ok (by omega) (by omega), bnd_s, Int.toNat_natCast, Hp_some, Lq_inl, nx1 (by omega)]
      refine ⟨rfl, fin _ ?_ ⟨?_, ?_, ?_, ?_⟩ (Or.inr ⟨c, hcc, ?_, ?_, ?_⟩)⟩
      · intro k i n
        simp only
        by_cases hij : i = j
        · rw [up_cell (by omega), up_cell (by omega), up_cell (by omega), up_cell (by omega), up_cell (by omega), up_cell (by omega), up_cell (by omega)]
        · rw [up_slot hij, up_slot hij, up_slot hij, up_slot hij, up_slot hij, up_slot hij, up_slot hij]
      all_goals (simp (disch := decide) only [up_eq, up_cell])
  · rintro ⟨x, σ⟩ ⟨e1, e2, e3, e4⟩
    simp only at e1 e2 e3 e4
    subst e1
    simp only [m_X12_run_L121]
    rw [if_pos (by rw [e2 170 35 (by omega), h35]; omega), Hp_some, Lq_inr]
    exact ⟨e2, e4⟩
