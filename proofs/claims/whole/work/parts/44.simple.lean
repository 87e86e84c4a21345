/-! THE SIMPLE CALLS -/
theorem inv_thr {σ : St} {x : Int} (hI : Inv σ) : Inv (up σ 170 0 x) := by
  refine inv_step (L := ([], [(170, 0)])) hI ?_ (Or.inl (by decide +kernel)) (Or.inl (by decide +kernel)) (Or.inl (by decide +kernel)) (Or.inl (by decide +kernel)) (Or.inl (by decide +kernel)) (Or.inl (by decide +kernel)) (Or.inl (by decide +kernel)) (Or.inl (by decide +kernel)) (Or.inl (by decide +kernel)) (Or.inl (by decide +kernel)) (Or.inl (by decide +kernel))
  (repeat (first | with_reducible exact Wr_rf | apply Wr_up _ rfl))
theorem c_count : PS_count Inv := by
  intro σ a1 hok hI ha
  apply pq_of
  have hI2 := hI
  obtain ⟨k1, k2, k3, k4, k5, k6, k7, k8, k9, k10, k11⟩ := hI2
  obtain ⟨⟨t1, t2, t3⟩, ⟨t4, t5, t6⟩, -⟩ := k1
  obtain ⟨⟨t7, t8, t9⟩, -⟩ := k3
  obtain ⟨⟨t10, t11, t12⟩, -⟩ := k6
  obtain ⟨⟨t13, t14, t15⟩, -⟩ := k7
  obtain ⟨t16, t17, t18, t19, -⟩ := k11
  simp only [m_X11_count, m_X12_count, Hp_bind, Hp_ite, Hp_some, Hp_pt, Hp_rd, Hp_wt, Hp_vl, Hp_rr, true_implies, false_implies, implies_true, not_true_eq_false, not_false_eq_true, eq_self, and_true, true_and, Int.reduceEq, Int.reduceNeg]
  simp (disch := decide) only [up_eq, up_cell, up_slot, Int.toNat_natCast, true_and, and_true, eq_self]
  repeat' (first | with_reducible refine And.intro ?_ ?_ | intro _)
  all_goals first | with_reducible exact inv_thr hI | omega | skip
theorem c_place : PS_place Inv := by
  intro σ hok hI
  apply pq_of
  have hI2 := hI
  obtain ⟨k1, k2, k3, k4, k5, k6, k7, k8, k9, k10, k11⟩ := hI2
  unfold iPlace at k4
  simp only [m_X11_place, m_X12_place, Hp_bind, Hp_ite, Hp_some, Hp_pt, Hp_rd, Hp_wt, Hp_vl, Hp_rr, true_implies, false_implies, implies_true, not_true_eq_false, not_false_eq_true, eq_self, and_true, true_and, Int.reduceEq, Int.reduceNeg]
  simp (disch := decide) only [up_eq, up_cell, up_slot, Int.toNat_natCast, true_and, and_true, eq_self]
  repeat' (first | with_reducible refine And.intro ?_ ?_ | intro _)
  all_goals first | with_reducible exact inv_thr hI | omega | skip
theorem c_back : PS_back Inv := by
  intro σ a1 hok hI ha
  apply ps_of
  have hI2 := hI
  obtain ⟨k1, k2, k3, k4, k5, k6, k7, k8, k9, k10, k11⟩ := hI2
  have k3' := k3
  obtain ⟨⟨t7, t8, t9⟩, t10⟩ := k3'
  obtain ⟨ha1, ha2⟩ := ha
  by_cases hr : 0 ≤ a1 ∧ a1 ≤ σ 16 0
  · obtain ⟨hr1, hr2⟩ := hr
    simp only [m_X11_back, m_X12_back, Hp_bind, Hp_ite, Hp_some, Hp_pt, Hp_rd, Hp_wt, Hp_vl, Hp_rr, true_implies, false_implies, implies_true, not_true_eq_false, not_false_eq_true, eq_self, and_true, true_and, Int.reduceEq, Int.reduceNeg]
    simp (disch := decide) only [up_eq, up_cell, up_slot, Int.toNat_natCast, true_and, and_true, eq_self]
    simp (disch := omega) only [wr_id']
    repeat' (first | with_reducible refine And.intro ?_ ?_ | intro _)
    all_goals first | omega | skip
    all_goals
      refine inv_step (L := ([], [(170, 0), (170, 2), (16, 0)])) hI ?_ (Or.inl (by decide +kernel)) (Or.inl (by decide +kernel)) (Or.inr ?_) (Or.inl (by decide +kernel)) (Or.inl (by decide +kernel)) (Or.inl (by decide +kernel)) (Or.inl (by decide +kernel)) (Or.inl (by decide +kernel)) (Or.inl (by decide +kernel)) (Or.inl (by decide +kernel)) (Or.inl (by decide +kernel))
      · (repeat (first | with_reducible exact Wr_rf | apply Wr_up _ rfl))
      · refine ⟨?_, ?_⟩
        · simp (disch := decide) only [up_eq, up_cell, up_slot, Int.toNat_natCast, true_and, and_true, eq_self]
          omega
        · intro i hi
          simp (disch := decide) only [up_eq, up_cell, up_slot] at hi ⊢
          exact t10 i (by omega)
  · simp only [m_X11_back, m_X12_back, Hp_bind, Hp_ite, Hp_some, Hp_pt, Hp_rd, Hp_wt, Hp_vl, Hp_rr, true_implies, false_implies, implies_true, not_true_eq_false, not_false_eq_true, eq_self, and_true, true_and, Int.reduceEq, Int.reduceNeg]
    simp (disch := decide) only [up_eq, up_cell, up_slot, Int.toNat_natCast, true_and, and_true, eq_self]
    repeat' (first | with_reducible refine And.intro ?_ ?_ | intro _)
    all_goals first | with_reducible exact inv_thr hI | omega | skip
theorem c_spot : PS_spot Inv := by
  intro σ hok hI
  apply ps_of
  have hI2 := hI
  obtain ⟨k1, k2, k3, k4, k5, k6, k7, k8, k9, k10, k11⟩ := hI2
  have k1' := k1
  obtain ⟨⟨t1, t2, t3⟩, ⟨t4, t5, t6⟩, t7⟩ := k1'
  by_cases hr : σ 1 4 < 10
  · simp only [m_X11_spot, m_X10_addSpot, m_X12_spot, Hp_bind, Hp_ite, Hp_some, Hp_pt, Hp_rd, Hp_wt, Hp_vl, Hp_rr, true_implies, false_implies, implies_true, not_true_eq_false, not_false_eq_true, eq_self, and_true, true_and, Int.reduceEq, Int.reduceNeg]
    simp (disch := decide) only [up_eq, up_cell, up_slot, Int.toNat_natCast, true_and, and_true, eq_self]
    simp (disch := omega) only [wr_id']
    repeat' (first | with_reducible refine And.intro ?_ ?_ | intro _)
    all_goals first | omega | skip
    all_goals
      refine inv_step (L := ([], [(1, 4), (170, 0), (170, 30), (170, 74)])) hI ?_ (Or.inr ?_) (Or.inl (by decide +kernel)) (Or.inl (by decide +kernel)) (Or.inl (by decide +kernel)) (Or.inl (by decide +kernel)) (Or.inr ?_) (Or.inr ?_) (Or.inr ?_) (Or.inl (by decide +kernel)) (Or.inl (by decide +kernel)) (Or.inl (by decide +kernel))
      · (repeat (first | with_reducible exact Wr_rf | apply Wr_up _ rfl))
      · refine ⟨?_, ?_, ?_⟩
        · simp (disch := decide) only [up_eq, up_cell, up_slot, Int.toNat_natCast, true_and, and_true, eq_self]
          omega
        · simp (disch := decide) only [up_eq, up_cell, up_slot, Int.toNat_natCast, true_and, and_true, eq_self]
          omega
        · intro w hw
          simp (disch := omega) only [up_eq, up_cell, up_slot] at hw ⊢
          have := t7 w hw
          omega
      · obtain ⟨u1, u2⟩ := k6
        refine ⟨?_, ?_⟩
        · simp (disch := decide) only [up_eq, up_cell, up_slot, Int.toNat_natCast, true_and, and_true, eq_self]
          exact u1
        · intro a ha
          have := u2 a ha
          simp (disch := omega) only [up_eq, up_cell, up_slot]
          omega
      · obtain ⟨u1, u2⟩ := k7
        refine ⟨?_, ?_⟩
        · simp (disch := decide) only [up_eq, up_cell, up_slot, Int.toNat_natCast, true_and, and_true, eq_self]
          exact u1
        · intro i hi
          simp (disch := omega) only [up_eq, up_cell, up_slot] at hi ⊢
          have := u2 i hi
          omega
      · left
        simp (disch := decide) only [up_eq, up_cell, up_slot, Int.toNat_natCast, true_and, and_true, eq_self]
  · simp only [m_X11_spot, m_X10_addSpot, m_X12_spot, Hp_bind, Hp_ite, Hp_some, Hp_pt, Hp_rd, Hp_wt, Hp_vl, Hp_rr, true_implies, false_implies, implies_true, not_true_eq_false, not_false_eq_true, eq_self, and_true, true_and, Int.reduceEq, Int.reduceNeg]
    simp (disch := decide) only [up_eq, up_cell, up_slot, Int.toNat_natCast, true_and, and_true, eq_self]
    repeat' (first | with_reducible refine And.intro ?_ ?_ | intro _)
    all_goals first | with_reducible exact inv_thr hI | omega | skip
