/-! could, since, touched -/
theorem c_could : PS_could Inv := by
  intro σ a1 a2 a3 a4 a5 hok hI h1 h2 h3 h4 h5
  apply ps_of
  have hI2 := hI
  obtain ⟨k1, k2, k3, k4, k5, k6, k7, k8, k9, k10, k11⟩ := hI2
  have hq := inv_thr (x := 0) hI
  have a0 := k6.1
  have b0 := k7.1
  have hbad : ¬ ((0 ≤ a1 ∧ a1 < shlI 1 (σ 0 6)) ∧ (0 ≤ a2 ∧ a2 < 96) ∧ (0 ≤ a3 ∧ a3 < 96) ∧ a2 ≤ a3 ∧ (0 ≤ a5 ∧ a5 ≤ σ 30 5)) → Hp (m_X12_could a1 a2 a3 a4 a5 σ) (fun q => q.1 = -1 ∧ Inv q.2) := by
    intro hc
    simp only [m_X12_could, Hp_bind, Hp_pt, m_isSet_eq, m_isTick_eq, m_isKnown_eq, Hp_some]
    simp (disch := decide) only [up_eq, up_cell, up_slot, Int.toNat_natCast, true_and, and_true, eq_self]
    rw [a0.1, b0.1]
    by_cases c1 : 0 ≤ a1 ∧ a1 < shlI 1 (σ 0 6)
    · simp only [if_pos c1, Int.reduceEq, if_false]
      rw [bnd_s]
      by_cases c2 : 0 ≤ a2 ∧ a2 < 96
      · simp only [if_pos c2, Int.reduceEq, if_false]
        rw [bnd_s]
        by_cases c3 : 0 ≤ a3 ∧ a3 < 96
        · simp only [if_pos c3, Int.reduceEq, if_false]
          by_cases c4 : a3 < a2
          · rw [if_pos c4, Hp_some]; exact ⟨rfl, hq⟩
          · rw [if_neg c4, bnd_s, if_neg (show ¬ (0 ≤ a5 ∧ a5 ≤ σ 30 5) by omega), if_pos rfl, Hp_some]
            exact ⟨rfl, hq⟩
        · simp only [if_neg c3, if_true, Hp_some]; exact ⟨by trivial, hq⟩
      · simp only [if_neg c2, if_true, Hp_some]; exact ⟨by trivial, hq⟩
    · simp only [if_neg c1, if_true, Hp_some]; exact ⟨by trivial, hq⟩
  rw [m_X11_could, isSet_eq, bnd_s]
  by_cases c1 : 0 ≤ a1 ∧ a1 < shlI 1 (σ 0 6)
  · simp only [if_pos c1, Int.reduceEq, if_false]
    rw [isTick_eq, bnd_s]
    by_cases c2 : 0 ≤ a2 ∧ a2 < 96
    · simp only [if_pos c2, Int.reduceEq, if_false]
      rw [isTick_eq, bnd_s]
      by_cases c3 : 0 ≤ a3 ∧ a3 < 96
      · simp only [if_pos c3, Int.reduceEq, if_false]
        by_cases c4 : a3 < a2
        · rw [if_pos c4, Hp_some]; exact hbad (by omega)
        · rw [if_neg c4, isKnow_eq, bnd_s]
          by_cases c5 : 0 ≤ a5 ∧ a5 ≤ σ 30 5
          · simp only [if_pos c5, Int.reduceEq, if_false]
            obtain ⟨t, rfl⟩ := Int.eq_ofNat_of_zero_le c2.1
            obtain ⟨A, hA⟩ := Int.eq_ofNat_of_zero_le a0.2.1
            have hA8 : A ≤ 8 := by omega
            have ht : t < 96 := by omega
            rw [Hp_bind]
            refine Hp_mono (rows_sp k7 k1 c5 a0.2) ?_
            rintro σ1 ⟨hK1, hR1⟩
            have e06 : σ1 0 6 = (A : Int) := (hK1.1 0 6 rfl).trans hA
            rw [Hp_bind, e06]
            refine Hp_mono (spread_sp (c := (σ, a5, A, (fun i => tb a1 i = true), (¬ a4 = 0), t)) k1 hA8 ht hK1 (fun a ha => hR1 a (by simp only at ha; omega)) (fun _ => Iff.rfl) Iff.rfl) ?_
            rintro σ2 ⟨w2, hK2, hR2, f1, f2⟩
            rw [Hp_bind]
            refine Hp_mono knowers_sp ?_
            intro y hy
            rw [Hp_some]
            have g06 : σ2 170 35 = σ 0 6 := (hK2.1 170 35 rfl).trans a0.1
            have g41 : σ2 170 41 = σ 30 5 := (hK2.1 170 41 rfl).trans b0.1
            simp only [m_X12_could, Hp_bind, Hp_pt, m_isSet_eq, m_isTick_eq, m_isKnown_eq, Hp_some]
            simp (disch := decide) only [up_eq, up_cell, up_slot, Int.toNat_natCast, true_and, and_true, eq_self]
            rw [g06, g41]
            simp only [if_pos c1, Int.reduceEq, if_false]
            rw [bnd_s]
            simp only [if_pos c2, Int.reduceEq, if_false]
            rw [bnd_s]
            simp only [if_pos c3, Int.reduceEq, if_false]
            rw [if_neg c4, bnd_s]
            simp only [if_pos c5, Int.reduceEq, if_false]
            rw [Hp_bind]
            refine Hp_mono (goes_c hI c5 hK2) ?_
            rintro τ1 ⟨hI1, hMC⟩
            rw [Hp_bind]
            refine Hp_mono (spreads_sp (c := (σ, a5, A, (fun i => tb a1 i = true), (¬ a4 = 0), t)) (set := a1) (drops := a4) k1 hA8 ht (hMC _ rfl rfl (by simp only; omega)) (fun _ => Iff.rfl) Iff.rfl) ?_
            rintro τ2 ⟨w3, hSp⟩
            rw [Hp_bind]
            refine Hp_mono (know_sp (c := (σ, a5, A, (fun i => tb a1 i = true), (¬ a4 = 0), t)) k1 hA8 ht hSp) ?_
            intro x hx
            rw [Hp_some]
            refine ⟨?_, inv_226 hI1 w3⟩
            refine Bs_ext hx hy ?_
            intro i
            constructor
            · rintro ⟨q1, b, q2, q3, q4⟩
              have := FsI_uniq q2 (f1 i q1)
              subst this
              exact ⟨by simp only at q1; omega, q3, q4⟩
            · rintro ⟨q1, q2, q3⟩
              by_cases hi : i < A
              · exact ⟨hi, _, f1 i hi, q2, q3⟩
              · exact absurd (f2 i (by simp only; omega) q1) q2
          · simp only [if_neg c5, if_true, Hp_some]; exact hbad (by omega)
      · simp only [if_neg c3, if_true, Hp_some]; exact hbad (by omega)
    · simp only [if_neg c2, if_true, Hp_some]; exact hbad (by omega)
  · simp only [if_neg c1, if_true, Hp_some]; exact hbad (by omega)
theorem c_since : PS_since Inv := by
  intro σ a1 a2 a3 a4 a5 hok hI h1 h2 h3 h4 h5
  apply ps_of
  have hI2 := hI
  obtain ⟨k1, k2, k3, k4, k5, k6, k7, k8, k9, k10, k11⟩ := hI2
  have hq := inv_thr (x := 0) hI
  have a0 := k6.1
  have b0 := k7.1
  have hbad : ¬ ((0 ≤ a1 ∧ a1 < σ 0 6) ∧ (0 ≤ a2 ∧ a2 < shlI 1 (σ 0 6)) ∧ (0 ≤ a3 ∧ a3 < 96) ∧ (0 ≤ a5 ∧ a5 ≤ σ 30 5)) → Hp (m_X12_since a1 a2 a3 a4 a5 σ) (fun q => q.1 = -1 ∧ Inv q.2) := by
    intro hc
    simp only [m_X12_since, Hp_bind, Hp_pt, m_isAgent_eq, m_isSet_eq, m_isTick_eq, m_isKnown_eq, Hp_some]
    simp (disch := decide) only [up_eq, up_cell, up_slot, Int.toNat_natCast, true_and, and_true, eq_self]
    rw [a0.1, b0.1]
    by_cases c1 : 0 ≤ a1 ∧ a1 < σ 0 6
    · simp only [if_pos c1, Int.reduceEq, if_false]
      rw [bnd_s]
      by_cases c2 : 0 ≤ a2 ∧ a2 < shlI 1 (σ 0 6)
      · simp only [if_pos c2, Int.reduceEq, if_false]
        rw [bnd_s]
        by_cases c3 : 0 ≤ a3 ∧ a3 < 96
        · simp only [if_pos c3, Int.reduceEq, if_false]
          rw [bnd_s, if_neg (show ¬ (0 ≤ a5 ∧ a5 ≤ σ 30 5) by omega), if_pos rfl, Hp_some]
          exact ⟨rfl, hq⟩
        · simp only [if_neg c3, if_true, Hp_some]; exact ⟨by trivial, hq⟩
      · simp only [if_neg c2, if_true, Hp_some]; exact ⟨by trivial, hq⟩
    · simp only [if_neg c1, if_true, Hp_some]; exact ⟨by trivial, hq⟩
  rw [m_X11_since, isAgent_eq (by omega), bnd_s]
  by_cases c1 : 0 ≤ a1 ∧ a1 < σ 0 6
  · simp only [if_pos c1, Int.reduceEq, if_false]
    rw [isSet_eq, bnd_s]
    by_cases c2 : 0 ≤ a2 ∧ a2 < shlI 1 (σ 0 6)
    · simp only [if_pos c2, Int.reduceEq, if_false]
      rw [isTick_eq, bnd_s]
      by_cases c3 : 0 ≤ a3 ∧ a3 < 96
      · simp only [if_pos c3, Int.reduceEq, if_false]
        rw [isKnow_eq, bnd_s]
        by_cases c5 : 0 ≤ a5 ∧ a5 ≤ σ 30 5
        · simp only [if_pos c5, Int.reduceEq, if_false]
          obtain ⟨t, rfl⟩ := Int.eq_ofNat_of_zero_le c3.1
          obtain ⟨a, rfl⟩ := Int.eq_ofNat_of_zero_le c1.1
          obtain ⟨A, hA⟩ := Int.eq_ofNat_of_zero_le a0.2.1
          have hA8 : A ≤ 8 := by omega
          have ht : t < 96 := by omega
          have haA : a < A := by omega
          rw [Hp_bind]
          refine Hp_mono (rows_sp k7 k1 c5 a0.2) ?_
          rintro σ1 ⟨hK1, hR1⟩
          have e06 : σ1 0 6 = (A : Int) := (hK1.1 0 6 rfl).trans hA
          rw [Hp_bind, e06]
          refine Hp_mono (spread_sp (c := (σ, a5, A, (fun i => tb a2 i = true), (¬ a4 = 0), t)) k1 hA8 ht hK1 (fun a ha => hR1 a (by simp only at ha; omega)) (fun _ => Iff.rfl) Iff.rfl) ?_
          rintro σ2 ⟨w2, hK2, hR2, f1, f2⟩
          rw [rd_ok (by omega) (by omega), bnd_s, Hp_some, Int.toNat_natCast]
          have g06 : σ2 170 35 = σ 0 6 := (hK2.1 170 35 rfl).trans a0.1
          have g41 : σ2 170 41 = σ 30 5 := (hK2.1 170 41 rfl).trans b0.1
          simp only [m_X12_since, Hp_bind, Hp_pt, m_isAgent_eq, m_isSet_eq, m_isTick_eq, m_isKnown_eq, Hp_some]
          simp (disch := decide) only [up_eq, up_cell, up_slot, Int.toNat_natCast, true_and, and_true, eq_self]
          rw [g06, g41]
          simp only [if_pos c1, Int.reduceEq, if_false]
          rw [bnd_s]
          simp only [if_pos c2, Int.reduceEq, if_false]
          rw [bnd_s]
          simp only [if_pos c3, Int.reduceEq, if_false]
          rw [bnd_s]
          simp only [if_pos c5, Int.reduceEq, if_false]
          rw [Hp_bind]
          refine Hp_mono (goes_c hI c5 hK2) ?_
          rintro τ1 ⟨hI1, hMC⟩
          rw [Hp_bind]
          refine Hp_mono (spreads_sp (c := (σ, a5, A, (fun i => tb a2 i = true), (¬ a4 = 0), t)) (set := a2) (drops := a4) k1 hA8 ht (hMC _ rfl rfl (by simp only; omega)) (fun _ => Iff.rfl) Iff.rfl) ?_
          rintro τ2 ⟨w3, hSp⟩
          obtain ⟨b, b1, b2⟩ := first_sp (c := (σ, a5, A, (fun i => tb a2 i = true), (¬ a4 = 0), t)) k1 hA8 ht haA hSp
          simp only at b1
          rw [b1, bnd_s, Hp_some]
          exact ⟨FsI_uniq b2 (f1 a haA), inv_226 hI1 w3⟩
        · simp only [if_neg c5, if_true, Hp_some]; exact hbad (by omega)
      · simp only [if_neg c3, if_true, Hp_some]; exact hbad (by omega)
    · simp only [if_neg c2, if_true, Hp_some]; exact hbad (by omega)
  · simp only [if_neg c1, if_true, Hp_some]; exact hbad (by omega)
