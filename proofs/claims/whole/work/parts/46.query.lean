/-! THE QUERIES of a run, and what was fed -/
theorem hadAgent_eq {a : Int} {σ : St} (h : σ 0 6 ≤ 8) (h2 : σ 129 1 ≤ σ 0 6) : m_X11_hadAgent a σ = some (if 0 ≤ a ∧ a < σ 129 1 then 1 else 0) := by
  rw [m_X11_hadAgent, isAgent_eq h]
  simp only [Option.bind_some, m_X8_had]
  by_cases h1 : 0 ≤ a ∧ a < σ 0 6
  · rw [if_pos h1, if_neg (by decide), if_neg (by omega)]
    split
    · rw [if_neg (by omega)]; rfl
    · rw [if_pos (by omega)]; rfl
  · rw [if_neg h1, if_pos rfl, if_neg (by omega)]
theorem m_ran_eq {a : Int} {σ : St} : m_X12_ran a σ = some (if 0 ≤ a ∧ a < σ 170 48 then 1 else 0) := by
  unfold m_X12_ran
  split
  · rw [if_neg (by omega)]
  · split
    · rw [if_neg (by omega)]
    · rw [if_pos (by omega)]
theorem isSecret_eq {a : Int} {σ : St} : m_X11_isSecret a σ = some (if 0 ≤ a ∧ a < 8 then 1 else 0) := by
  unfold m_X11_isSecret
  split
  · rw [if_neg (by omega)]
  · split
    · rw [if_neg (by omega)]
    · rw [if_pos (by omega)]
theorem m_isSecret_eq {a : Int} {σ : St} : m_X12_isSecret a σ = some (if 0 ≤ a ∧ a < 8 then 1 else 0) := by
  unfold m_X12_isSecret
  split
  · rw [if_neg (by omega)]
  · split
    · rw [if_neg (by omega)]
    · rw [if_pos (by omega)]
theorem run_had {σ : St} (hI : Inv σ) : σ 0 6 ≤ 8 ∧ σ 129 1 ≤ σ 0 6 ∧ ∀ a : Int, (0 ≤ a ∧ a < σ 170 48) ↔ (0 ≤ a ∧ a < σ 129 1) := by
  obtain ⟨k1, k2, k3, k4, k5, k6, k7, k8, k9, k10, k11⟩ := hI
  obtain ⟨⟨t10, t11, t12⟩, -⟩ := k6
  rcases k10 with ⟨r1, r2, r3⟩ | ⟨⟨r1, r2, r3, r4⟩, -⟩
  · refine ⟨t12, by omega, ?_⟩
    intro a; omega
  · refine ⟨t12, r4, ?_⟩
    intro a; omega
theorem run_ag {σ : St} (hI : Inv σ) {a : Int} (h : 0 ≤ a ∧ a < σ 129 1) : ∃ n : Nat, a = n ∧ n < 8 ∧ (n : Int) < σ 129 1 ∧ rf 38 n = 39 + 7 * n ∧ (∀ t : Nat, t < 96 → σ 201 (96 * n + t) = σ (43 + 7 * n) t) ∧
     (∀ i : Nat, i < 8 → σ 202 (8 * n + i) = σ (44 + 7 * n) i ∧ σ 203 (8 * n + i) = σ (45 + 7 * n) i) ∧
     (σ 204 n = σ (39 + 7 * n) 16 ∧ σ 209 n = σ (39 + 7 * n) 17 ∧ σ 208 n = σ (39 + 7 * n) 18) ∧
     σ 207 (8 * n + n) = -1 ∧ (∀ b : Nat, (b : Int) < σ 129 1 → b < 8 → σ 207 (8 * n + b) = σ (133 + n) b) := by
  obtain ⟨k1, k2, k3, k4, k5, k6, k7, k8, k9, k10, k11⟩ := hI
  obtain ⟨⟨t10, t11, t12⟩, -⟩ := k6
  obtain ⟨n, rfl⟩ := Int.eq_ofNat_of_zero_le h.1
  rcases k10 with ⟨r1, r2, r3⟩ | ⟨⟨r1, r2, r3, r4⟩, r5, -⟩
  · omega
  · exact ⟨n, rfl, by omega, h.2, rf_ag (by omega), r5 n h.2 (by omega)⟩
theorem c_where : PS_where Inv := by
  intro σ a1 a2 hok hI h1 h2
  apply pq_of
  obtain ⟨e1, e2, e3⟩ := run_had hI
  have hq := inv_thr (x := 0) hI
  simp only [m_X11_where, m_X12_where, hadAgent_eq e1 e2, isTick_eq, m_ran_eq, m_isTick_eq, Hp_bind, Hp_pt, Option.bind_some]
  simp (disch := decide) only [up_eq, up_cell, up_slot, Int.toNat_natCast, true_and, and_true, eq_self]
  simp only [e3]
  by_cases hr : 0 ≤ a1 ∧ a1 < σ 129 1
  · by_cases ht : 0 ≤ a2 ∧ a2 < 96
    · obtain ⟨n, rfl, hn, hn2, hrf, g1, -⟩ := run_ag hI hr
      obtain ⟨t, rfl⟩ := Int.eq_ofNat_of_zero_le ht.1
      simp only [if_pos hr, if_pos ht, Int.reduceEq, if_false]
      rw [rr_ok (by omega) (by omega)]
      simp only [Int.toNat_natCast, Option.bind_some, hrf]
      rw [rd_ok (by omega) (by omega), wr_id' (x := 96 * (n : Int)) (by omega) (by omega), wr_id' (by omega) (by omega), rd_ok (by omega) (by omega)]
      simp only [Option.bind_some, Hp_some, Int.toNat_natCast]
      simp (disch := decide) only [up_eq, up_cell, up_slot, Int.toNat_natCast, true_and, and_true, eq_self]
      have := g1 t (by omega)
      rw [show (96 * (n : Int) + (t : Int)).toNat = 96 * n + t by omega, show 39 + 7 * n + 4 = 43 + 7 * n by omega]
      exact ⟨this, hq⟩
    · simp only [if_pos hr, if_neg ht, Int.reduceEq, if_false, if_true, Hp_some]
      exact ⟨by trivial, hq⟩
  · simp only [if_neg hr, if_true, Hp_some]
    exact ⟨by trivial, hq⟩
theorem c_knows : PS_knows Inv := by
  intro σ a1 a2 hok hI h1 h2
  apply pq_of
  obtain ⟨e1, e2, e3⟩ := run_had hI
  have hq := inv_thr (x := 0) hI
  simp only [m_X11_knows, m_X12_knows, hadAgent_eq e1 e2, isSecret_eq, m_ran_eq, m_isSecret_eq, Hp_bind, Hp_pt, Option.bind_some]
  simp (disch := decide) only [up_eq, up_cell, up_slot, Int.toNat_natCast, true_and, and_true, eq_self]
  simp only [e3]
  by_cases hr : 0 ≤ a1 ∧ a1 < σ 129 1
  · by_cases ht : 0 ≤ a2 ∧ a2 < 8
    · obtain ⟨n, rfl, hn, hn2, hrf, g1, g2, -⟩ := run_ag hI hr
      obtain ⟨t, rfl⟩ := Int.eq_ofNat_of_zero_le ht.1
      simp only [if_pos hr, if_pos ht, Int.reduceEq, if_false]
      rw [rr_ok (by omega) (by omega)]
      simp only [Int.toNat_natCast, Option.bind_some, hrf]
      rw [rd_ok (by omega) (by omega), wr_id' (x := 8 * (n : Int)) (by omega) (by omega), wr_id' (by omega) (by omega), rd_ok (by omega) (by omega)]
      simp only [Option.bind_some, Hp_some, Int.toNat_natCast]
      simp (disch := decide) only [up_eq, up_cell, up_slot, Int.toNat_natCast, true_and, and_true, eq_self]
      have := (g2 t (by omega)).1
      rw [show (8 * (n : Int) + (t : Int)).toNat = 8 * n + t by omega, show 39 + 7 * n + 5 = 44 + 7 * n by omega]
      exact ⟨this, hq⟩
    · simp only [if_pos hr, if_neg ht, Int.reduceEq, if_false, if_true, Hp_some]
      exact ⟨by trivial, hq⟩
  · simp only [if_neg hr, if_true, Hp_some]
    exact ⟨by trivial, hq⟩
theorem c_has : PS_has Inv := by
  intro σ a1 a2 hok hI h1 h2
  apply pq_of
  obtain ⟨e1, e2, e3⟩ := run_had hI
  have hq := inv_thr (x := 0) hI
  simp only [m_X11_has, m_X12_has, hadAgent_eq e1 e2, isSecret_eq, m_ran_eq, m_isSecret_eq, Hp_bind, Hp_pt, Option.bind_some]
  simp (disch := decide) only [up_eq, up_cell, up_slot, Int.toNat_natCast, true_and, and_true, eq_self]
  simp only [e3]
  by_cases hr : 0 ≤ a1 ∧ a1 < σ 129 1
  · by_cases ht : 0 ≤ a2 ∧ a2 < 8
    · obtain ⟨n, rfl, hn, hn2, hrf, g1, g2, g3, -⟩ := run_ag hI hr
      simp only [if_pos hr, if_pos ht, Int.reduceEq, if_false]
      rw [rr_ok (by omega) (by omega)]
      simp only [Int.toNat_natCast, Option.bind_some, hrf]
      rw [rd_ok (by omega) (by omega)]
      simp only [Option.bind_some, Hp_some, Int.toNat_natCast]
      simp (disch := decide) only [up_eq, up_cell, up_slot, Int.toNat_natCast, true_and, and_true, eq_self]
      rw [g3.1]
      exact ⟨rfl, hq⟩
    · simp only [if_pos hr, if_neg ht, Int.reduceEq, if_false, if_true, Hp_some]
      exact ⟨by trivial, hq⟩
  · simp only [if_neg hr, if_true, Hp_some]
    exact ⟨by trivial, hq⟩
theorem c_ended : PS_ended Inv := by
  intro σ a1 hok hI h1
  apply pq_of
  obtain ⟨e1, e2, e3⟩ := run_had hI
  have hq := inv_thr (x := 0) hI
  simp only [m_X11_ended, m_X12_ended, hadAgent_eq e1 e2, m_ran_eq, Hp_bind, Hp_pt, Option.bind_some]
  simp (disch := decide) only [up_eq, up_cell, up_slot, Int.toNat_natCast, true_and, and_true, eq_self]
  simp only [e3]
  by_cases hr : 0 ≤ a1 ∧ a1 < σ 129 1
  · obtain ⟨n, rfl, hn, hn2, hrf, g1, g2, g3, -⟩ := run_ag hI hr
    simp only [if_pos hr, Int.reduceEq, if_false]
    rw [rr_ok (by omega) (by omega)]
    simp only [Int.toNat_natCast, Option.bind_some, hrf]
    rw [rd_ok (by omega) (by omega)]
    simp only [Option.bind_some, Hp_some, Int.toNat_natCast]
    simp (disch := decide) only [up_eq, up_cell, up_slot, Int.toNat_natCast, true_and, and_true, eq_self]
    exact ⟨g3.2.2, hq⟩
  · simp only [if_neg hr, if_true, Hp_some]
    exact ⟨by trivial, hq⟩
theorem c_deeds : PS_deeds Inv := by
  intro σ a1 hok hI h1
  apply pq_of
  obtain ⟨e1, e2, e3⟩ := run_had hI
  have hq := inv_thr (x := 0) hI
  simp only [m_X11_deeds, m_X12_deeds, hadAgent_eq e1 e2, m_ran_eq, Hp_bind, Hp_pt, Option.bind_some]
  simp (disch := decide) only [up_eq, up_cell, up_slot, Int.toNat_natCast, true_and, and_true, eq_self]
  simp only [e3]
  by_cases hr : 0 ≤ a1 ∧ a1 < σ 129 1
  · obtain ⟨n, rfl, hn, hn2, hrf, g1, g2, g3, -⟩ := run_ag hI hr
    simp only [if_pos hr, Int.reduceEq, if_false]
    rw [rr_ok (by omega) (by omega)]
    simp only [Int.toNat_natCast, Option.bind_some, hrf]
    rw [rd_ok (by omega) (by omega)]
    simp only [Option.bind_some, Hp_some, Int.toNat_natCast]
    simp (disch := decide) only [up_eq, up_cell, up_slot, Int.toNat_natCast, true_and, and_true, eq_self]
    exact ⟨g3.2.1, hq⟩
  · simp only [if_neg hr, if_true, Hp_some]
    exact ⟨by trivial, hq⟩
theorem c_met : PS_met Inv := by
  intro σ a1 a2 hok hI h1 h2
  apply pq_of
  obtain ⟨e1, e2, e3⟩ := run_had hI
  have hq := inv_thr (x := 0) hI
  simp only [m_X11_met, m_X12_met, hadAgent_eq e1 e2, m_ran_eq, Hp_bind, Hp_pt, Option.bind_some]
  simp (disch := decide) only [up_eq, up_cell, up_slot, Int.toNat_natCast, true_and, and_true, eq_self]
  simp only [e3]
  by_cases hr : 0 ≤ a1 ∧ a1 < σ 129 1
  · by_cases ht : 0 ≤ a2 ∧ a2 < σ 129 1
    · obtain ⟨n, rfl, hn, hn2, hrf, g1, g2, g3, g4, g5⟩ := run_ag hI hr
      obtain ⟨m, rfl, hm, hm2, -⟩ := run_ag hI ht
      simp only [if_pos hr, if_pos ht, Int.reduceEq, if_false]
      rw [wr_id' (x := 8 * (n : Int)) (by omega) (by omega), wr_id' (by omega) (by omega), rd_ok (by omega) (by omega)]
      simp only [Option.bind_some]
      simp (disch := decide) only [up_eq, up_cell, up_slot, Int.toNat_natCast, true_and, and_true, eq_self]
      rw [show (8 * (n : Int) + (m : Int)).toNat = 8 * n + m by omega]
      by_cases hnm : (n : Int) = (m : Int)
      · have : n = m := by omega
        subst this
        rw [if_pos rfl]
        simp only [Hp_some]
        exact ⟨g4, hq⟩
      · rw [if_neg hnm, rr_ok (by omega) (by omega)]
        simp only [Int.toNat_natCast, Option.bind_some, rf_met hn]
        rw [rd_ok (by omega) (by omega)]
        simp only [Option.bind_some, Hp_some, Int.toNat_natCast]
        exact ⟨g5 m hm2 hm, hq⟩
    · simp only [if_pos hr, if_neg ht, Int.reduceEq, if_false, if_true, Hp_some]
      exact ⟨by trivial, hq⟩
  · simp only [if_neg hr, if_true, Hp_some]
    exact ⟨by trivial, hq⟩
theorem c_saws : PS_saws Inv := by
  intro σ hok hI
  apply pq_of
  have hI2 := hI
  obtain ⟨k1, k2, k3, k4, k5, k6, k7, k8, k9, k10, k11⟩ := hI2
  have hq := inv_thr (x := 0) hI
  simp only [m_X11_saws, m_X12_saws, Hp_bind, Hp_pt]
  simp (disch := decide) only [up_eq, up_cell, up_slot, Int.toNat_natCast, true_and, and_true, eq_self]
  rcases k10 with ⟨r1, r2, r3⟩ | ⟨⟨r1, r2, r3, r4⟩, r5, r6, r7, r8, r9⟩
  · rw [if_pos r1, Hp_some, if_pos r3, Hp_some]; exact ⟨rfl, hq⟩
  · rw [if_neg (by omega), Hp_some, if_neg (by omega), Hp_some]; exact ⟨r8.1, hq⟩
theorem inv_234 {σ : St} {x : Int} (hI : Inv σ) : Inv (up σ 234 0 x) := by
  refine inv_step (L := ([(234, 234)], [])) hI ?_ (Or.inl (by decide +kernel)) (Or.inl (by decide +kernel)) (Or.inl (by decide +kernel)) (Or.inl (by decide +kernel)) (Or.inl (by decide +kernel)) (Or.inl (by decide +kernel)) (Or.inl (by decide +kernel)) (Or.inl (by decide +kernel)) (Or.inl (by decide +kernel)) (Or.inl (by decide +kernel)) (Or.inl (by decide +kernel))
  (repeat (first | with_reducible exact Wr_rf | apply Wr_up _ rfl))
theorem c_saw : PS_saw Inv := by
  intro σ a1 hok hI h1
  have hI2 := hI
  obtain ⟨k1, k2, k3, k4, k5, k6, k7, k8, k9, k10, k11⟩ := hI2
  rcases k10 with ⟨r1, r2, r3⟩ | ⟨⟨r1, r2, r3, r4⟩, r5, r6, r7, r8, r9⟩
  · refine ⟨1, 0, σ, up (up σ 170 0 0) 170 0 1, by rw [m_L_saw, if_pos r1], Or.inr rfl, ?_, ?_, fun h => absurd h (by decide), inv_thr (inv_thr hI)⟩
    · simp only [m_X12_saw, pt, Option.bind_some]
      rw [if_pos (by rw [up_slot (by decide)]; exact r3)]; rfl
    · simp only [m_X12_thrown, up_eq]
  · have n1 : ¬ σ 129 0 = 0 := by omega
    have n2 : ¬ up σ 170 0 0 170 48 = -1 := by rw [up_slot (by decide)]; omega
    by_cases hr : 0 ≤ a1 ∧ a1 < σ 129 6
    · obtain ⟨n, rfl⟩ := Int.eq_ofNat_of_zero_le hr.1
      refine ⟨0, σ 141 n, up σ 234 0 (σ 141 n), up (up σ 234 0 (σ 141 n)) 170 0 0, ?_, Or.inl rfl, ?_, ?_, ?_, inv_thr (inv_234 hI)⟩
      · rw [m_L_saw, if_neg n1, if_neg (by omega), if_neg (by omega), if_neg (by omega), rd_ok (by omega) (by omega)]; rfl
      · simp only [m_X12_saw, pt, Option.bind_some]
        simp (disch := decide) only [up_eq, up_cell, up_slot, Int.toNat_natCast, true_and, and_true, eq_self]
        rw [if_neg (by omega), if_neg (by omega), if_pos (by omega), rd_ok (by omega) (by omega)]
        simp only [Option.bind_some, Int.toNat_natCast]
        simp (disch := decide) only [up_eq, up_cell, up_slot, Int.toNat_natCast, true_and, and_true, eq_self]
        rw [r9 n hr.2]
      · simp only [m_X12_thrown, up_eq]
      · intro _
        simp (disch := decide) only [up_eq, up_cell, up_slot, Int.toNat_natCast, true_and, and_true, eq_self]
    · refine ⟨1, 0, σ, up (up σ 170 0 0) 170 0 1, ?_, Or.inr rfl, ?_, ?_, fun h => absurd h (by decide), inv_thr (inv_thr hI)⟩
      · rw [m_L_saw, if_neg n1]
        by_cases h2 : a1 < 0
        · rw [if_pos h2]
        · rw [if_neg h2, if_pos (by omega)]
      · simp only [m_X12_saw, pt, Option.bind_some]
        rw [if_neg n2]
        simp (disch := decide) only [up_eq, up_cell, up_slot, Int.toNat_natCast, true_and, and_true, eq_self]
        by_cases h2 : a1 < 0
        · rw [if_pos h2]; rfl
        · rw [if_neg h2, if_neg (by omega)]; rfl
      · simp only [m_X12_thrown, up_eq]
theorem c_word : PS_word Inv := by
  intro σ a1 hok hI h1
  apply pq_of
  have hI2 := hI
  obtain ⟨k1, k2, k3, k4, k5, k6, k7, k8, k9, k10, k11⟩ := hI2
  obtain ⟨⟨t10, t11, t12⟩, -⟩ := k6
  obtain ⟨w1, w2⟩ := k9
  have hq := inv_thr (x := 0) hI
  simp only [m_X11_word, m_X12_word_, isAgent_eq t12, Hp_bind, Hp_pt, Option.bind_some]
  simp (disch := decide) only [up_eq, up_cell, up_slot, Int.toNat_natCast, true_and, and_true, eq_self]
  by_cases hr : 0 ≤ a1 ∧ a1 < σ 0 6
  · obtain ⟨n, rfl⟩ := Int.eq_ofNat_of_zero_le hr.1
    rw [if_pos hr, if_neg (by decide), rd_ok (by omega) (by omega)]
    simp only [Option.bind_some, Hp_some, Int.toNat_natCast]
    rcases w2 with ⟨x1, x2, x3⟩ | ⟨x1, x2, x3, x4⟩
    · rw [if_pos x2, Hp_some]
      exact ⟨(x3 n (by omega)).symm, hq⟩
    · rw [if_neg (by omega), if_neg (by omega), if_neg (by omega), rd_ok (by omega) (by omega)]
      simp only [Option.bind_some, Hp_some, Int.toNat_natCast]
      simp (disch := decide) only [up_eq, up_cell, up_slot, Int.toNat_natCast, true_and, and_true, eq_self]
      exact ⟨x3 n (by omega), hq⟩
  · rw [if_neg hr, if_pos rfl, Hp_some]
    by_cases h2 : σ 170 82 = -1
    · rw [if_pos h2, Hp_some]; exact ⟨rfl, hq⟩
    · rw [if_neg h2]
      by_cases h3 : a1 < 0
      · rw [if_pos h3, Hp_some]; exact ⟨rfl, hq⟩
      · rw [if_neg h3]
        by_cases h4 : 8 ≤ a1
        · rw [if_pos h4, Hp_some]; exact ⟨rfl, hq⟩
        · obtain ⟨n, rfl⟩ := Int.eq_ofNat_of_zero_le (show 0 ≤ a1 by omega)
          rw [if_neg h4, rd_ok (by omega) (by omega)]
          simp only [Option.bind_some, Hp_some, Int.toNat_natCast]
          simp (disch := decide) only [up_eq, up_cell, up_slot, Int.toNat_natCast, true_and, and_true, eq_self]
          have := w1 n (by omega) (by omega)
          exact ⟨this.resolve_right h2, hq⟩
theorem c_doubt : PS_doubt Inv := by
  intro σ a1 hok hI h1
  apply pq_of
  have hI2 := hI
  obtain ⟨k1, k2, k3, k4, k5, k6, k7, k8, k9, k10, k11⟩ := hI2
  obtain ⟨w1, w2⟩ := k9
  have hq := inv_thr (x := 0) hI
  simp only [m_X11_doubt, m_X12_doubt, Hp_bind, Hp_pt]
  simp (disch := decide) only [up_eq, up_cell, up_slot, Int.toNat_natCast, true_and, and_true, eq_self]
  by_cases h2 : a1 < 0
  · rw [if_pos h2, Hp_some, if_pos h2, Hp_some]; exact ⟨rfl, hq⟩
  · rw [if_neg h2, if_neg h2]
    obtain ⟨n, rfl⟩ := Int.eq_ofNat_of_zero_le (show 0 ≤ a1 by omega)
    rcases w2 with ⟨x1, x2, x3⟩ | ⟨x1, x2, x3, x4⟩
    · rw [if_pos (by omega), Hp_some, if_pos (by omega), Hp_some]; exact ⟨rfl, hq⟩
    · by_cases h3 : σ 164 3 ≤ (n : Int)
      · rw [if_pos h3, Hp_some, if_pos (by omega), Hp_some]; exact ⟨rfl, hq⟩
      · rw [if_neg h3, if_pos (by omega), rd_ok (by omega) (by omega)]
        simp only [Option.bind_some, Hp_some, Int.toNat_natCast]
        rw [if_neg (by omega), rd_ok (by omega) (by omega)]
        simp only [Option.bind_some, Hp_some, Int.toNat_natCast]
        simp (disch := decide) only [up_eq, up_cell, up_slot, Int.toNat_natCast, true_and, and_true, eq_self]
        exact ⟨x4 n (by omega), hq⟩
