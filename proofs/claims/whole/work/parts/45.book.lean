/-! the book's calls that write -/
/-- a fact more in the class's book -/
def AddP (σ σ' : St) (k w s f t : Int) : Prop := Wr ([(31, 35)], [(30, 5)]) σ σ' ∧ σ' 30 5 = σ 30 5 + 1 ∧ (∀ j : Nat, (j : Int) ≠ σ 30 5 → σ' 31 j = σ 31 j ∧ σ' 32 j = σ 32 j ∧ σ' 33 j = σ 33 j ∧ σ' 34 j = σ 34 j ∧ σ' 35 j = σ 35 j) ∧
  (∀ j : Nat, (j : Int) = σ 30 5 → σ' 31 j = k ∧ σ' 32 j = w ∧ σ' 33 j = s ∧ σ' 34 j = f ∧ σ' 35 j = t)
theorem add_sp {σ : St} {k w s f t : Int} (h0 : 0 ≤ σ 30 5) (h1 : σ 30 5 < 150) : Hp (m_X1_add k w s f t σ) (fun r => r.1 = σ 30 5 ∧ AddP σ r.2 k w s f t) := by
  simp only [m_X1_add, Hp_bind, Hp_ite, Hp_some, Hp_pt, Hp_rd, Hp_wt, Hp_vl, Hp_rr, true_implies, false_implies, implies_true, not_true_eq_false, not_false_eq_true, eq_self, and_true, true_and, Int.reduceEq, Int.reduceNeg]
  simp (disch := decide) only [up_eq, up_cell, up_slot, Int.toNat_natCast, true_and, and_true, eq_self]
  rw [wr_id' (by omega) (by omega)]
  refine ⟨fun _ => ?_, fun h => absurd h1 h⟩
  refine ⟨⟨h0, h1⟩, ⟨h0, h1⟩, ⟨h0, h1⟩, ⟨h0, h1⟩, ⟨h0, h1⟩, ?_, ?_, ?_, ?_⟩
  · (repeat (first | with_reducible exact Wr_rf | apply Wr_up _ rfl))
  · rw [up_eq]
  · intro j hj
    have : j ≠ (σ 30 5).toNat := by omega
    simp only [up, this, and_false, if_false]
    simp
  · intro j hj
    have : j = (σ 30 5).toNat := by omega
    subst this
    simp [up]
/-- a fact more in the model's -/
def FactP (σ σ' : St) (k w s f t : Int) : Prop := Wr ([(195, 199)], [(170, 41)]) σ σ' ∧ σ' 170 41 = σ 170 41 + 1 ∧ (∀ j : Nat, (j : Int) ≠ σ 170 41 → σ' 195 j = σ 195 j ∧ σ' 196 j = σ 196 j ∧ σ' 197 j = σ 197 j ∧ σ' 198 j = σ 198 j ∧ σ' 199 j = σ 199 j) ∧
  (∀ j : Nat, (j : Int) = σ 170 41 → σ' 195 j = k ∧ σ' 196 j = w ∧ σ' 197 j = s ∧ σ' 198 j = f ∧ σ' 199 j = t)
theorem fact_sp {σ : St} {k w s f t : Int} (h0 : 0 ≤ σ 170 41) (h1 : σ 170 41 < 150) : Hp (m_X12_fact k w s f t σ) (fun r => r.1 = σ 170 41 ∧ FactP σ r.2 k w s f t) := by
  simp only [m_X12_fact, Hp_bind, Hp_ite, Hp_some, Hp_pt, Hp_rd, Hp_wt, Hp_vl, Hp_rr, true_implies, false_implies, implies_true, not_true_eq_false, not_false_eq_true, eq_self, and_true, true_and, Int.reduceEq, Int.reduceNeg]
  simp (disch := decide) only [up_eq, up_cell, up_slot, Int.toNat_natCast, true_and, and_true, eq_self]
  rw [wr_id' (x := σ 170 41 + 1) (by omega) (by omega), wr_id' (by omega) (by omega)]
  refine ⟨⟨h0, h1⟩, ⟨h0, h1⟩, ⟨h0, h1⟩, ⟨h0, h1⟩, ⟨h0, h1⟩, by omega, ?_, ?_, ?_, ?_⟩
  · (repeat (first | with_reducible exact Wr_rf | apply Wr_up _ rfl))
  · rw [up_eq]
  · intro j hj
    have : j ≠ (σ 170 41).toNat := by omega
    simp only [up, this, and_false, if_false]
    simp
  · intro j hj
    have : j = (σ 170 41).toNat := by omega
    subst this
    simp [up]
theorem vw_app {σ σ' : St} {n : Int} (hn : n ≤ σ 170 41) (h : ∀ k j : Nat, k = 187 ∨ k = 188 ∨ k = 189 ∨ (k = 170 ∧ (j = 30 ∨ j = 31)) → σ' k j = σ k j) (hf : ∀ j : Nat, (j : Int) ≠ σ 170 41 → σ' 195 j = σ 195 j ∧ σ' 196 j = σ 196 j ∧ σ' 197 j = σ 197 j ∧ σ' 198 j = σ 198 j ∧ σ' 199 j = σ 199 j) : vw σ' n = vw σ n := by
  funext k j
  unfold vw
  split
  next q =>
    rcases q with ⟨q1, q2, q3⟩ | q | ⟨q1, q2 | q2⟩
    · have := hf j (by omega)
      have hk : k = 195 ∨ k = 196 ∨ k = 197 ∨ k = 198 ∨ k = 199 := by omega
      rcases hk with q | q | q | q | q <;> subst q
      · exact this.1
      · exact this.2.1
      · exact this.2.2.1
      · exact this.2.2.2.1
      · exact this.2.2.2.2
    · exact h k j (by omega)
    · exact h k j (by omega)
    · exact h k j (by omega)
  next q => rfl
/-- a fact more in both books -/
theorem inv_app {σ σ1 σ2 : St} {k w s f t s' f' t' : Int} (hI : Inv σ) (h1 : AddP σ σ1 k w s f t) (h2 : FactP (up σ1 170 0 0) σ2 k w s' f' t') (hn : σ 30 5 < 150)
    (hk : 0 ≤ k ∧ k ≤ 3) (c0 : k = 0 → (s' = s ∧ 0 ≤ s ∧ s < σ 1 4) ∧ f' = f ∧ t' = t ∧ 0 ≤ f ∧ f < t ∧ t ≤ 96) (c1 : k = 1 → (s' = s ∧ 0 ≤ s ∧ s < σ 1 4) ∧ f' = f ∧ 0 ≤ f ∧ f < 96) (c2 : k = 2 → f' = f ∧ 0 ≤ f ∧ f < 96) (c3 : k = 3 → 0 ≤ w ∧ w < σ 30 5) : Inv σ2 := by
  have hI2 := hI
  obtain ⟨k1, k2, k3, k4, k5, k6, k7, k8, k9, k10, k11⟩ := hI2
  obtain ⟨⟨t13, t14, t15⟩, t16⟩ := k7
  obtain ⟨a1, a2, a3, a4⟩ := h1
  obtain ⟨b1, b2, b3, b4⟩ := h2
  simp (disch := omega) only [up_eq, up_cell, up_slot] at b2 b3 b4
  have e1 : σ1 170 41 = σ 170 41 := a1 170 41 rfl
  have hw : Wr ([(31, 35), (195, 199)], [(30, 5), (170, 0), (170, 41)]) σ σ2 := (Wr_tr (Wr_up (Wr_sb a1 rfl) rfl) (Wr_sb b1 rfl))
  refine inv_step (L := ([(31, 35), (195, 199)], [(30, 5), (170, 0), (170, 41)])) hI ?_ (Or.inl (by decide +kernel)) (Or.inl (by decide +kernel)) (Or.inl (by decide +kernel)) (Or.inl (by decide +kernel)) (Or.inl (by decide +kernel)) (Or.inl (by decide +kernel)) (Or.inr ?_) (Or.inr ?_) (Or.inl (by decide +kernel)) (Or.inl (by decide +kernel)) (Or.inl (by decide +kernel))
  · exact hw
  · have e2 : σ2 30 5 = σ1 30 5 := by
      have := b1 30 5 rfl
      simp (disch := omega) only [up_cell] at this
      exact this
    have e3 : σ2 1 4 = σ 1 4 := hw 1 4 rfl
    have ec : ∀ c j : Nat, 31 ≤ c → c ≤ 35 → σ2 c j = σ1 c j := by
      intro c j h1 h2
      have : c = 31 ∨ c = 32 ∨ c = 33 ∨ c = 34 ∨ c = 35 := by omega
      rcases this with q | q | q | q | q <;> subst q <;> exact b1 _ j rfl
    have ed : ∀ c j : Nat, 195 ≤ c → c ≤ 199 → σ1 c j = σ c j := by
      intro c j h1 h2
      have : c = 195 ∨ c = 196 ∨ c = 197 ∨ c = 198 ∨ c = 199 := by omega
      rcases this with q | q | q | q | q <;> subst q <;> exact a1 _ j rfl
    refine ⟨by omega, ?_⟩
    intro i hi
    rw [ec 31 i (by omega) (by omega), ec 32 i (by omega) (by omega), ec 33 i (by omega) (by omega), ec 34 i (by omega) (by omega), ec 35 i (by omega) (by omega), e3]
    by_cases hin : (i : Int) = σ 30 5
    · have p := a4 i hin
      have q := b4 i (by omega)
      obtain ⟨p1, p2, p3, p4, p5⟩ := p
      obtain ⟨q1, q2, q3, q4, q5⟩ := q
      rw [p1, p2, p3, p4, p5, q1, q2, q3, q4, q5]
      refine ⟨⟨rfl, hk⟩, rfl, ?_, ?_, ?_, ?_⟩
      · intro h; have := c0 h; omega
      · intro h; have := c1 h; omega
      · intro h; have := c2 h; omega
      · intro h; have := c3 h; omega
    · have p := a3 i hin
      have q := b3 i (by omega)
      obtain ⟨p1, p2, p3, p4, p5⟩ := p
      obtain ⟨q1, q2, q3, q4, q5⟩ := q
      rw [p1, p2, p3, p4, p5, q1, q2, q3, q4, q5, ed 195 i (by omega) (by omega), ed 196 i (by omega) (by omega), ed 197 i (by omega) (by omega), ed 198 i (by omega) (by omega), ed 199 i (by omega) (by omega)]
      exact t16 i (by omega)
  · rcases k8 with q | ⟨q1, q2, q3⟩
    · left
      rw [hw 170 74 rfl]; exact q
    · right
      have g1 : σ2 170 74 = σ 170 74 := hw 170 74 rfl
      have g2 : σ2 170 35 = σ 170 35 := hw 170 35 rfl
      have g3 : σ2 225 = σ 225 := funext fun j => hw 225 j rfl
      have g4 : σ2 221 = σ 221 := funext fun j => hw 221 j rfl
      have g5 : vw σ2 (σ 170 74) = vw σ (σ 170 74) := by
        refine vw_app q1.2 ?_ ?_
        · intro k j hk
          rcases hk with q | q | q | ⟨q, q' | q'⟩
          · subst q; exact hw _ j rfl
          · subst q; exact hw _ j rfl
          · subst q; exact hw _ j rfl
          · subst q; subst q'; exact hw _ _ rfl
          · subst q; subst q'; exact hw _ _ rfl
        · intro j hj
          have q := b3 j (by omega)
          rw [a1 195 j rfl, a1 196 j rfl, a1 197 j rfl, a1 198 j rfl, a1 199 j rfl] at q
          exact q
      rw [g1, g2, g3, g4, g5]
      exact ⟨⟨q1.1, by omega⟩, q2, q3⟩
theorem isAgent_eq {a : Int} {σ : St} (h : σ 0 6 ≤ 8) : m_X11_isAgent a σ = some (if 0 ≤ a ∧ a < σ 0 6 then 1 else 0) := by
  unfold m_X11_isAgent
  split
  · rw [if_neg (by omega)]
  · split
    · rw [if_neg (by omega)]
    · rw [if_neg (by omega), if_pos (by omega)]
theorem hasSpot_eq {a : Int} {σ : St} (h : σ 1 4 ≤ 10) : m_X10_hasSpot a σ = some (if 0 ≤ a ∧ a < σ 1 4 then 1 else 0) := by
  unfold m_X10_hasSpot
  split
  · rw [if_neg (by omega)]
  · split
    · rw [if_neg (by omega)]
    · rw [if_neg (by omega), if_pos (by omega)]
theorem isTick_eq {a : Int} {σ : St} : m_X11_isTick a σ = some (if 0 ≤ a ∧ a < 96 then 1 else 0) := by
  unfold m_X11_isTick
  split
  · rw [if_neg (by omega)]
  · split
    · rw [if_neg (by omega)]
    · rw [if_pos (by omega)]
theorem m_isAgent_eq {a : Int} {σ : St} : m_X12_isAgent a σ = some (if 0 ≤ a ∧ a < σ 170 35 then 1 else 0) := by
  unfold m_X12_isAgent
  split
  · rw [if_neg (by omega)]
  · split
    · rw [if_neg (by omega)]
    · rw [if_pos (by omega)]
theorem m_isSpot_eq {a : Int} {σ : St} : m_X12_isSpot a σ = some (if 0 ≤ a ∧ a < σ 170 30 then 1 else 0) := by
  unfold m_X12_isSpot
  split
  · rw [if_neg (by omega)]
  · split
    · rw [if_neg (by omega)]
    · rw [if_pos (by omega)]
theorem m_isTick_eq {a : Int} {σ : St} : m_X12_isTick a σ = some (if 0 ≤ a ∧ a < 96 then 1 else 0) := by
  unfold m_X12_isTick
  split
  · rw [if_neg (by omega)]
  · split
    · rw [if_neg (by omega)]
    · rw [if_pos (by omega)]
theorem c_sight : PS_sight Inv := by
  intro σ a1 a2 a3 hok hI h1 h2 h3
  apply ps_of
  have hI2 := hI
  obtain ⟨k1, k2, k3, k4, k5, k6, k7, k8, k9, k10, k11⟩ := hI2
  obtain ⟨⟨t1, t2, t3⟩, -, -⟩ := k1
  obtain ⟨⟨t10, t11, t12⟩, -⟩ := k6
  obtain ⟨⟨t13, t14, t15⟩, -⟩ := k7
  clear k2 k3 k4 k5 k8 k9 k10 k11
  rw [m_X11_sight, isAgent_eq t12, hasSpot_eq t3, isTick_eq]
  by_cases hr : (0 ≤ a1 ∧ a1 < σ 0 6) ∧ (0 ≤ a2 ∧ a2 < σ 1 4) ∧ 0 ≤ a3 ∧ a3 < 96
  · obtain ⟨hr1, hr2, hr3⟩ := hr
    simp only [if_pos hr1, if_pos hr2, if_pos hr3, Option.bind_some, Int.reduceEq, if_false, wr_id' (x := a3 + 1) (by omega) (by omega), Hp_bind]
    by_cases hn : σ 30 5 < 150
    · refine Hp_mono (add_sp t14 hn) ?_
      rintro ⟨y, σ1⟩ ⟨g1, g2⟩
      simp only at g1 g2
      rw [Hp_some]
      have f1 : σ1 170 41 = σ 170 41 := g2.1 170 41 rfl
      have f2 : σ1 170 35 = σ 170 35 := g2.1 170 35 rfl
      have f3 : σ1 170 30 = σ 170 30 := g2.1 170 30 rfl
      simp only [m_X12_sight, m_isAgent_eq, m_isSpot_eq, m_isTick_eq, Hp_bind, Hp_pt]
      simp (disch := decide) only [up_eq, up_cell, up_slot, Int.toNat_natCast, true_and, and_true, eq_self]
      rw [if_neg (by omega), f2, t10, f3, t1]
      simp only [if_pos hr1, if_pos hr2, if_pos hr3, Hp_some, Int.reduceEq, if_false, Hp_bind]
      refine Hp_mono (fact_sp (by rw [up_slot (by decide)]; omega) (by rw [up_slot (by decide)]; omega)) ?_
      rintro ⟨y2, σ2⟩ ⟨g3, g4⟩
      simp only at g3 g4
      rw [up_slot (by decide)] at g3
      exact ⟨by simp only; omega, inv_app hI g2 g4 hn (by omega) (by omega) (by omega) (by omega) (by omega)⟩
    · simp only [m_X1_add, if_neg hn, m_X12_sight, Hp_some, Hp_bind, Hp_pt]
      simp (disch := decide) only [up_eq, up_cell, up_slot, Int.toNat_natCast, true_and, and_true, eq_self]
      rw [if_pos (by omega), Hp_some]
      exact ⟨rfl, inv_thr hI⟩
  · have : Hp (m_X12_sight a1 a2 a3 σ) (fun q => q.1 = -1 ∧ Inv q.2) := by
      simp only [m_X12_sight, m_isAgent_eq, m_isSpot_eq, m_isTick_eq, Hp_bind, Hp_pt, Hp_some, Option.bind_some]
      simp (disch := decide) only [up_eq, up_cell, up_slot, Int.toNat_natCast, true_and, and_true, eq_self]
      rw [t10, t1]
      have hq := inv_thr (x := 0) hI
      split
      · rw [Hp_some]; exact ⟨by trivial, hq⟩
      · by_cases hr1 : 0 ≤ a1 ∧ a1 < σ 0 6
        · by_cases hr2 : 0 ≤ a2 ∧ a2 < σ 1 4
          · have hr3 : ¬ (0 ≤ a3 ∧ a3 < 96) := fun q => hr ⟨hr1, hr2, q⟩
            simp only [if_pos hr1, if_pos hr2, if_neg hr3, Int.reduceEq, if_false, if_true, Hp_some]
            exact ⟨by trivial, hq⟩
          · simp only [if_pos hr1, if_neg hr2, Int.reduceEq, if_false, if_true, Hp_some]
            exact ⟨by trivial, hq⟩
        · simp only [if_neg hr1, Int.reduceEq, if_false, if_true, Hp_some]
          exact ⟨by trivial, hq⟩
    by_cases hr1 : 0 ≤ a1 ∧ a1 < σ 0 6
    · by_cases hr2 : 0 ≤ a2 ∧ a2 < σ 1 4
      · have hr3 : ¬ (0 ≤ a3 ∧ a3 < 96) := fun q => hr ⟨hr1, hr2, q⟩
        simp only [if_pos hr1, if_pos hr2, if_neg hr3, Option.bind_some, Int.reduceEq, if_false, if_true, Hp_some]
        exact this
      · simp only [if_pos hr1, if_neg hr2, Option.bind_some, Int.reduceEq, if_false, if_true, Hp_some]
        exact this
    · simp only [if_neg hr1, Option.bind_some, Int.reduceEq, if_false, if_true, Hp_some]
      exact this
theorem c_turned : PS_turned Inv := by
  intro σ a1 a3 hok hI h1 h3
  apply ps_of
  have hI2 := hI
  obtain ⟨k1, k2, k3, k4, k5, k6, k7, k8, k9, k10, k11⟩ := hI2
  obtain ⟨⟨t1, t2, t3⟩, -, -⟩ := k1
  obtain ⟨⟨t10, t11, t12⟩, -⟩ := k6
  obtain ⟨⟨t13, t14, t15⟩, -⟩ := k7
  clear k2 k3 k4 k5 k8 k9 k10 k11
  rw [m_X11_turned, isAgent_eq t12, isTick_eq]
  by_cases hr : (0 ≤ a1 ∧ a1 < σ 0 6) ∧ 0 ≤ a3 ∧ a3 < 96
  · obtain ⟨hr1, hr3⟩ := hr
    simp only [if_pos hr1, if_pos hr3, Option.bind_some, Int.reduceEq, if_false, Hp_bind]
    by_cases hn : σ 30 5 < 150
    · refine Hp_mono (add_sp t14 hn) ?_
      rintro ⟨y, σ1⟩ ⟨g1, g2⟩
      simp only at g1 g2
      rw [Hp_some]
      have f1 : σ1 170 41 = σ 170 41 := g2.1 170 41 rfl
      have f2 : σ1 170 35 = σ 170 35 := g2.1 170 35 rfl
      have f3 : σ1 170 30 = σ 170 30 := g2.1 170 30 rfl
      simp only [m_X12_turned, m_isAgent_eq, m_isSpot_eq, m_isTick_eq, Hp_bind, Hp_pt]
      simp (disch := decide) only [up_eq, up_cell, up_slot, Int.toNat_natCast, true_and, and_true, eq_self]
      rw [if_neg (by omega), f2, t10]
      simp only [if_pos hr1, if_pos hr3, Hp_some, Int.reduceEq, if_false, Hp_bind]
      refine Hp_mono (fact_sp (by rw [up_slot (by decide)]; omega) (by rw [up_slot (by decide)]; omega)) ?_
      rintro ⟨y2, σ2⟩ ⟨g3, g4⟩
      simp only at g3 g4
      rw [up_slot (by decide)] at g3
      exact ⟨by simp only; omega, inv_app hI g2 g4 hn (by omega) (by omega) (by omega) (by omega) (by omega)⟩
    · simp only [m_X1_add, if_neg hn, m_X12_turned, Hp_some, Hp_bind, Hp_pt]
      simp (disch := decide) only [up_eq, up_cell, up_slot, Int.toNat_natCast, true_and, and_true, eq_self]
      rw [if_pos (by omega), Hp_some]
      exact ⟨rfl, inv_thr hI⟩
  · have : Hp (m_X12_turned a1 a3 σ) (fun q => q.1 = -1 ∧ Inv q.2) := by
      simp only [m_X12_turned, m_isAgent_eq, m_isSpot_eq, m_isTick_eq, Hp_bind, Hp_pt, Hp_some, Option.bind_some]
      simp (disch := decide) only [up_eq, up_cell, up_slot, Int.toNat_natCast, true_and, and_true, eq_self]
      rw [t10]
      have hq := inv_thr (x := 0) hI
      split
      · rw [Hp_some]; exact ⟨by trivial, hq⟩
      · by_cases hr1 : 0 ≤ a1 ∧ a1 < σ 0 6
        · have hr3 : ¬ (0 ≤ a3 ∧ a3 < 96) := fun q => hr ⟨hr1, q⟩
          simp only [if_pos hr1, if_neg hr3, Int.reduceEq, if_false, if_true, Hp_some]
          exact ⟨by trivial, hq⟩
        · simp only [if_neg hr1, Int.reduceEq, if_false, if_true, Hp_some]
          exact ⟨by trivial, hq⟩
    by_cases hr1 : 0 ≤ a1 ∧ a1 < σ 0 6
    · have hr3 : ¬ (0 ≤ a3 ∧ a3 < 96) := fun q => hr ⟨hr1, q⟩
      simp only [if_pos hr1, if_neg hr3, Option.bind_some, Int.reduceEq, if_false, if_true, Hp_some]
      exact this
    · simp only [if_neg hr1, Option.bind_some, Int.reduceEq, if_false, if_true, Hp_some]
      exact this
theorem isFactOf_eq {a n : Int} {σ : St} (h0 : σ 30 5 ≤ 150) : m_X1_isFactOf a n σ = some (if 0 ≤ a ∧ a < n ∧ a < σ 30 5 then 1 else 0) := by
  unfold m_X1_isFactOf
  split
  · rw [if_neg (by omega)]
  · split
    · rw [if_neg (by omega)]
    · split
      · rw [if_neg (by omega)]
      · rw [if_neg (by omega), if_pos (by omega)]
theorem c_strike : PS_strike Inv := by
  intro σ a1 hok hI h1
  apply ps_of
  have hI2 := hI
  obtain ⟨k1, k2, k3, k4, k5, k6, k7, k8, k9, k10, k11⟩ := hI2
  obtain ⟨⟨t13, t14, t15⟩, t16⟩ := k7
  clear k1 k2 k3 k4 k5 k6 k8 k9 k10 k11
  have hq := inv_thr (x := 0) hI
  rw [m_X11_strike, isFactOf_eq t15]
  simp only [Option.bind_some]
  by_cases hr : 0 ≤ a1 ∧ a1 < σ 30 5 ∧ a1 < σ 30 5
  · rw [if_pos hr, if_neg (by decide), rd_ok (by omega) (by omega)]
    obtain ⟨a, rfl⟩ := Int.eq_ofNat_of_zero_le hr.1
    simp only [Int.toNat_natCast, Option.bind_some]
    have hk := t16 a (by omega)
    by_cases h3 : σ 31 a = 3
    · rw [if_pos h3, Hp_some]
      simp only [m_X12_strike, Hp_bind, Hp_pt]
      simp (disch := decide) only [up_eq, up_cell, up_slot, Int.toNat_natCast, true_and, and_true, eq_self]
      by_cases hn : σ 170 41 = 150
      · rw [if_pos hn, Hp_some]; exact ⟨by trivial, hq⟩
      · rw [if_neg hn, if_neg (by omega), if_neg (by omega), rd_ok (by omega) (by omega)]
        simp only [Int.toNat_natCast, Option.bind_some]
        simp (disch := decide) only [up_eq, up_cell, up_slot, Int.toNat_natCast, true_and, and_true, eq_self]
        rw [if_pos (by omega), Hp_some]
        exact ⟨by trivial, hq⟩
    · rw [if_neg h3, Hp_bind]
      by_cases hn : σ 30 5 < 150
      · refine Hp_mono (add_sp t14 hn) ?_
        rintro ⟨y, σ1⟩ ⟨g1, g2⟩
        simp only at g1 g2
        rw [Hp_some]
        have f1 : σ1 170 41 = σ 170 41 := g2.1 170 41 rfl
        have f2 : σ1 195 a = σ 195 a := g2.1 195 a rfl
        simp only [m_X12_strike, Hp_bind, Hp_pt]
        simp (disch := decide) only [up_eq, up_cell, up_slot, Int.toNat_natCast, true_and, and_true, eq_self]
        rw [if_neg (by omega), if_neg (by omega), if_neg (by omega), rd_ok (by omega) (by omega)]
        simp only [Int.toNat_natCast, Option.bind_some]
        simp (disch := decide) only [up_eq, up_cell, up_slot, Int.toNat_natCast, true_and, and_true, eq_self]
        rw [if_neg (by omega), Hp_bind]
        refine Hp_mono (fact_sp (by rw [up_slot (by decide)]; omega) (by rw [up_slot (by decide)]; omega)) ?_
        rintro ⟨y2, σ2⟩ ⟨g3, g4⟩
        simp only at g3 g4
        rw [up_slot (by decide)] at g3
        rw [Hp_some]
        exact ⟨by simp only; omega, inv_app hI g2 g4 hn (by omega) (by omega) (by omega) (by omega) (by omega)⟩
      · simp only [m_X1_add, if_neg hn, m_X12_strike, Hp_some, Hp_bind, Hp_pt]
        simp (disch := decide) only [up_eq, up_cell, up_slot, Int.toNat_natCast, true_and, and_true, eq_self]
        rw [if_pos (by omega), Hp_some]
        exact ⟨by trivial, hq⟩
  · rw [if_neg hr, if_pos rfl, Hp_some]
    simp only [m_X12_strike, Hp_bind, Hp_pt]
    simp (disch := decide) only [up_eq, up_cell, up_slot, Int.toNat_natCast, true_and, and_true, eq_self]
    by_cases hn : σ 170 41 = 150
    · rw [if_pos hn, Hp_some]; exact ⟨by trivial, hq⟩
    · rw [if_neg hn]
      by_cases h0 : a1 < 0
      · rw [if_pos h0, Hp_some]; exact ⟨by trivial, hq⟩
      · rw [if_neg h0, if_pos (by omega), Hp_some]; exact ⟨by trivial, hq⟩
