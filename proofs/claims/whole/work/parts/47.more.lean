/-! chain, left, give, agent -/
def lnk (σ : St) (i : Nat) (x : Int) : Int := if x = -1 then -1 else σ 203 (8 * x.toNat + i)
def lnkN (σ : St) (i : Nat) : Nat → Int → Int
  | 0, x => x
  | n + 1, x => lnkN σ i n (lnk σ i x)
theorem lnkN_m1 (σ : St) (i n : Nat) : lnkN σ i n (-1) = -1 := by
  induction n with
  | zero => rfl
  | succ n ih => exact ih
theorem c_chain : PS_chain Inv := by
  intro σ a1 a2 a3 hok hI h1 h2 h3
  apply pq_of
  have hI2 := hI
  obtain ⟨k1, k2, k3, k4, k5, k6, k7, k8, k9, k10, k11⟩ := hI2
  obtain ⟨⟨t10, t11, t12⟩, -⟩ := k6
  obtain ⟨e1, e2, e3⟩ := run_had hI
  have hq := inv_thr (x := 0) hI
  simp only [m_X11_chain, m_X12_chain, hadAgent_eq e1 e2, isSecret_eq, m_ran_eq, m_isSecret_eq, Hp_bind, Hp_pt, Option.bind_some]
  simp (disch := decide) only [up_eq, up_cell, up_slot, Int.toNat_natCast, true_and, and_true, eq_self]
  simp only [e3]
  by_cases hr : 0 ≤ a1 ∧ a1 < σ 129 1
  · by_cases ht : 0 ≤ a2 ∧ a2 < 8
    · simp only [if_pos hr, if_pos ht, Int.reduceEq, if_false]
      by_cases hz : 0 ≤ a3
      · rw [if_pos hz, if_neg (by omega)]
        rcases k10 with ⟨r1, r2, r3⟩ | ⟨⟨r1, r2, r3, r4⟩, r5, ⟨rk, r6⟩, -⟩
        · omega
        obtain ⟨n, rfl, hn, hn2, hrf, g1, g2, g3, -⟩ := run_ag hI hr
        obtain ⟨i, rfl⟩ := Int.eq_ofNat_of_zero_le ht.1
        obtain ⟨m, rfl⟩ := Int.eq_ofNat_of_zero_le hz
        have hi : i < 8 := by omega
        rw [rr_ok (by omega) (by omega)]
        simp only [Int.toNat_natCast, Option.bind_some, hrf]
        rw [rd_ok (by omega) (by omega), wr_id' (x := 8 * (n : Int)) (by omega) (by omega), wr_id' (by omega) (by omega), rd_ok (by omega) (by omega)]
        simp only [Option.bind_some, Int.toNat_natCast]
        simp (disch := decide) only [up_eq, up_cell, up_slot, Int.toNat_natCast, true_and, and_true, eq_self]
        rw [show (8 * (n : Int) + (i : Int)).toNat = 8 * n + i by omega, show 39 + 7 * n + 5 = 44 + 7 * n by omega, (g2 i hi).1]
        by_cases hk : σ (44 + 7 * n) i = -1
        · rw [if_pos hk, if_pos hk, Hp_some, Hp_some]
          exact ⟨rfl, hq⟩
        · rw [if_neg hk, if_neg hk]
          simp only [Hp_bind, Hp_some]
          have hb : ∀ x : Int, (0 ≤ x ∧ x < σ 129 1) → lnk σ i x = σ 203 (8 * x.toNat + i) ∧ σ (45 + 7 * x.toNat) i = lnk σ i x ∧ rk x.toNat i ≤ 100 ∧ (lnk σ i x = -1 ∨ ((0 ≤ lnk σ i x ∧ lnk σ i x < σ 129 1) ∧ rk (lnk σ i x).toNat i < rk x.toNat i)) := by
            intro x hx
            obtain ⟨b, rfl⟩ := Int.eq_ofNat_of_zero_le hx.1
            have hl : lnk σ i (b : Int) = σ 203 (8 * b + i) := by
              unfold lnk
              rw [if_neg (by omega)]; rfl
            have q1 := r5 b hx.2 (by omega)
            have q2 := r6 b i hx.2 (by omega) hi
            simp only [Int.toNat_natCast]
            rw [hl]
            refine ⟨rfl, (q1.2.1 i hi).2.symm, q2.1, ?_⟩
            rcases q2.2 with q | ⟨c, q3, q4, q5⟩
            · exact Or.inl q
            · right
              rw [q3]
              exact ⟨⟨by omega, q4⟩, q5⟩
          refine Hp_lp (fun z (a : Int × Int) => (a.1 = -1 ∨ ((0 ≤ a.1 ∧ a.1 < σ 129 1) ∧ rk a.1.toNat i < z)) ∧ ∃ k : Nat, a.2 = (k : Int) ∧ k ≤ m ∧ lnkN σ i (m - k) a.1 = lnkN σ i m n) (n := 101) ⟨Or.inr ⟨hr, ?_⟩, 0, rfl, by omega, rfl⟩ (by omega) ?_
          · have := (hb n hr).2.2.1
            show rk n i < 101
            rw [Int.toNat_natCast] at this
            omega
          · rintro z ⟨x, c⟩ ⟨hx, k, hc, hkm, hl⟩
            simp only at hx hc hl
            subst hc
            simp only [m_X11_chain_L44, hadAgent_eq e1 e2, Option.bind_some]
            by_cases hkk : (m : Int) ≤ (k : Int)
            · rw [if_pos hkk, Hp_some, Lq_inr]
              have : m - k = 0 := by omega
              rw [this] at hl
              simp only [lnkN] at hl
              rw [hl]
              clear hkk this hl hkm hx
              refine Hp_lp (fun z (a : Int × Int) => (a.1 = -1 ∨ ((0 ≤ a.1 ∧ a.1 < σ 129 1) ∧ rk a.1.toNat i < z)) ∧ ∃ k : Nat, a.2 = (k : Int) ∧ k ≤ m ∧ lnkN σ i k a.1 = lnkN σ i m n) (n := 101) ⟨Or.inr ⟨hr, ?_⟩, m, rfl, by omega, rfl⟩ (by omega) ?_
              · have := (hb n hr).2.2.1
                show rk n i < 101
                rw [Int.toNat_natCast] at this
                omega
              · rintro z ⟨x, c⟩ ⟨hx, k, hc, hkm, hl⟩
                simp only at hx hc hl
                subst hc
                simp only [m_X12_chain_L47]
                by_cases hkk : (k : Int) ≤ 0
                · rw [if_pos hkk, Hp_some, Lq_inr]
                  have : k = 0 := by omega
                  subst this
                  simp only [lnkN] at hl
                  exact ⟨hl, hq⟩
                · rw [if_neg hkk]
                  rcases hx with hx | ⟨hx1, hx2⟩
                  · rw [if_pos hx, Hp_some, Lq_inr]
                    rw [hx, lnkN_m1] at hl
                    exact ⟨hx.trans hl, hq⟩
                  · have hb' := hb x hx1
                    obtain ⟨b, rfl⟩ := Int.eq_ofNat_of_zero_le hx1.1
                    rw [if_neg (by omega), wr_id' (x := 8 * (b : Int)) (by omega) (by omega), wr_id' (x := 8 * (b : Int) + (i : Int)) (by omega) (by omega), rd_ok (by omega) (by omega)]
                    simp only [Option.bind_some, Hp_some, Lq_inl]
                    simp (disch := decide) only [up_eq, up_cell, up_slot, Int.toNat_natCast, true_and, and_true, eq_self]
                    rw [show (8 * (b : Int) + (i : Int)).toNat = 8 * b + i by omega]
                    have hl' : σ 203 (8 * b + i) = lnk σ i b := hb'.1.symm
                    rw [hl']
                    simp only [Int.toNat_natCast] at hb' hx2
                    refine ⟨rk b i, hx2, ?_, k - 1, ?_, by omega, ?_⟩
                    · exact hb'.2.2.2
                    · rw [wr_id' (by omega) (by omega)]; omega
                    · have : k = (k - 1) + 1 := by omega
                      rw [this] at hl
                      exact hl
            · rw [if_neg hkk]
              rcases hx with hx | ⟨hx1, hx2⟩
              · rw [if_pos hx, Hp_some, Lq_inr]
                rw [hx, lnkN_m1] at hl
                rw [hx]
                clear hkk hkm hx
                refine Hp_lp (fun z (a : Int × Int) => (a.1 = -1 ∨ ((0 ≤ a.1 ∧ a.1 < σ 129 1) ∧ rk a.1.toNat i < z)) ∧ ∃ k : Nat, a.2 = (k : Int) ∧ k ≤ m ∧ lnkN σ i k a.1 = lnkN σ i m n) (n := 101) ⟨Or.inr ⟨hr, ?_⟩, m, rfl, by omega, rfl⟩ (by omega) ?_
                · have := (hb n hr).2.2.1
                  show rk n i < 101
                  rw [Int.toNat_natCast] at this
                  omega
                · rintro z ⟨x, c⟩ ⟨hx, k, hc, hkm, hl2⟩
                  simp only at hx hc hl2
                  subst hc
                  simp only [m_X12_chain_L47]
                  by_cases hkk : (k : Int) ≤ 0
                  · rw [if_pos hkk, Hp_some, Lq_inr]
                    have : k = 0 := by omega
                    subst this
                    simp only [lnkN] at hl2
                    exact ⟨hl2.trans hl.symm, hq⟩
                  · rw [if_neg hkk]
                    rcases hx with hx | ⟨hx1, hx2⟩
                    · rw [if_pos hx, Hp_some, Lq_inr]
                      exact ⟨hx, hq⟩
                    · have hb' := hb x hx1
                      obtain ⟨b, rfl⟩ := Int.eq_ofNat_of_zero_le hx1.1
                      rw [if_neg (by omega), wr_id' (x := 8 * (b : Int)) (by omega) (by omega), wr_id' (x := 8 * (b : Int) + (i : Int)) (by omega) (by omega), rd_ok (by omega) (by omega)]
                      simp only [Option.bind_some, Hp_some, Lq_inl]
                      simp (disch := decide) only [up_eq, up_cell, up_slot, Int.toNat_natCast, true_and, and_true, eq_self]
                      rw [show (8 * (b : Int) + (i : Int)).toNat = 8 * b + i by omega]
                      have hl' : σ 203 (8 * b + i) = lnk σ i b := hb'.1.symm
                      rw [hl']
                      simp only [Int.toNat_natCast] at hb' hx2
                      refine ⟨rk b i, hx2, ?_, k - 1, ?_, by omega, ?_⟩
                      · exact hb'.2.2.2
                      · rw [wr_id' (by omega) (by omega)]; omega
                      · have : k = (k - 1) + 1 := by omega
                        rw [this] at hl2
                        exact hl2
              · have hb' := hb x hx1
                obtain ⟨b, rfl⟩ := Int.eq_ofNat_of_zero_le hx1.1
                rw [if_neg (by omega), if_pos hx1, if_neg (by decide), rr_ok (by omega) (by omega)]
                simp only [Int.toNat_natCast, Option.bind_some] at hb' hx2 ⊢
                rw [rf_ag (by omega), rd_ok (by omega) (by omega)]
                simp only [Option.bind_some, Hp_some, Lq_inl, Int.toNat_natCast]
                rw [show 39 + 7 * b + 6 = 45 + 7 * b by omega, hb'.2.1]
                refine ⟨rk b i, hx2, hb'.2.2.2, k + 1, ?_, by omega, ?_⟩
                · rw [wr_id' (by omega) (by omega)]; omega
                · have : m - k = (m - (k + 1)) + 1 := by omega
                  rw [this] at hl
                  exact hl
      · simp only [if_neg hz, if_pos (show a3 < 0 by omega), Hp_some]
        exact ⟨by trivial, hq⟩
    · simp only [if_pos hr, if_neg ht, Int.reduceEq, if_false, if_true, Hp_some]
      exact ⟨by trivial, hq⟩
  · simp only [if_neg hr, if_true, Hp_some]
    exact ⟨by trivial, hq⟩
theorem tb_16 (i : Nat) : tb 16 i = decide (i = 4) := by
  by_cases h : i < 32
  · have : ∀ i : Fin 32, tb 16 i.val = decide (i.val = 4) := by decide
    exact this ⟨i, h⟩
  · rw [tb_hi _ (by omega)]
    simp; omega
theorem c_left : PS_left Inv := by
  intro σ a1 hok hI h1
  apply pq_of
  have hI2 := hI
  obtain ⟨k1, k2, k3, k4, k5, k6, k7, k8, k9, k10, k11⟩ := hI2
  obtain ⟨⟨t1, t2, t3⟩, -, -⟩ := k1
  have hq := inv_thr (x := 0) hI
  simp only [m_X11_left, m_X12_left, hasSpot_eq t3, m_isSpot_eq, Hp_bind, Hp_pt, Option.bind_some]
  simp (disch := decide) only [up_eq, up_cell, up_slot, Int.toNat_natCast, true_and, and_true, eq_self]
  rcases k10 with ⟨r1, r2, r3⟩ | ⟨⟨r1, r2, r3, r4⟩, r5, r6, r7, r8, r9⟩
  · rw [if_pos r1, Hp_some, if_pos r3, Hp_some]; exact ⟨rfl, hq⟩
  · simp only [if_neg (show ¬ σ 129 0 = 0 by omega), if_neg (show ¬ σ 170 48 = -1 by omega), t1]
    by_cases hr : 0 ≤ a1 ∧ a1 < σ 1 4
    · obtain ⟨s, rfl⟩ := Int.eq_ofNat_of_zero_le hr.1
      have hs : s < 10 := by omega
      simp only [if_pos hr, Int.reduceEq, if_false]
      rw [rd_ok (by omega) (by omega)]
      simp only [Option.bind_some, Int.toNat_natCast]
      rw [rd_ok (by omega) (by omega)]
      simp only [Option.bind_some, Int.toNat_natCast, Hp_some]
      rw [rd_ok (by omega) (by omega)]
      simp only [Option.bind_some, Int.toNat_natCast, Hp_bind, Hp_some]
      simp (disch := decide) only [up_eq, up_cell, up_slot, Int.toNat_natCast, true_and, and_true, eq_self]
      obtain ⟨⟨m1, m2, m3⟩, ⟨m4, m5⟩, m6⟩ := r7 s hs
      rw [m1]
      have b1 : ∀ i, 4 ≤ i → tb (σ 130 s) i = false := (mask_iff ⟨by omega, by omega⟩ (by decide)).mp ⟨m2, by simpa using m3⟩
      have b2 : ∀ i, 8 ≤ i → tb (σ 131 s) i = false := (mask_iff ⟨by omega, by omega⟩ (by decide)).mp ⟨m4, by simpa using m5⟩
      refine Hp_up (fun j (a : Int × Int) => a.2 = (j : Int) ∧ InI a.1 ∧ ∀ i, i < 32 → tb a.1 i = (tb (σ 130 s) i || (decide (4 ≤ i) && decide (i < 4 + j) && tb (σ 131 s) (i - 4)))) 0 8 (by omega) (by omega) ⟨rfl, ⟨by omega, by omega⟩, ?_⟩ ?_ ?_
      · intro i hi
        by_cases h4 : i < 4
        · simp only; simp [show ¬ 4 ≤ i by omega]
        · simp only; simp [show ¬ i < 4 by omega]
      · rintro j ⟨x, c⟩ - hj ⟨hc, hx, hb⟩
        simp only at hc hx hb
        subst hc
        simp only [m_X12_left_L32]
        rw [if_neg (by omega), wr_id' (x := 8 * (s : Int)) (by omega) (by omega), wr_id' (x := 8 * (s : Int) + (j : Int)) (by omega) (by omega), rd_ok (by omega) (by omega)]
        simp only [Option.bind_some]
        simp (disch := decide) only [up_eq, up_cell, up_slot, Int.toNat_natCast, true_and, and_true, eq_self]
        rw [show (8 * (s : Int) + (j : Int)).toNat = 8 * s + j by omega, wr_id' (x := (j : Int) + 1) (by omega) (by omega)]
        have m6j := m6 j hj
        by_cases hl : σ 206 (8 * s + j) = -1
        · rw [if_pos hl, Hp_some, Lq_inl]
          refine ⟨by simp only; omega, hx, ?_⟩
          have hf : tb (σ 131 s) j = false := by
            cases h : tb (σ 131 s) j with
            | false => rfl
            | true => exact absurd hl (m6j.mpr h)
          intro i hi
          simp only
          rw [hb i hi]
          by_cases h4 : i = 4 + j
          · subst h4
            simp [hf]
          · congr 1
            by_cases h5 : i < 4 + j
            · simp [h5, show i < 4 + (j + 1) by omega]
            · simp [h5, show ¬ i < 4 + (j + 1) by omega]
        · rw [if_neg hl]
          simp only [vl, Option.bind_some, Hp_some, Lq_inl]
          have hf : tb (σ 131 s) j = true := m6j.mp hl
          refine ⟨by omega, orI_in _ _, ?_⟩
          intro i hi
          rw [tb_or, hb i hi, tb_shl _ (by omega), tb_16]
          by_cases h4 : i = 4 + j
          · subst h4
            simp [hf, hi]
          · by_cases h5 : i < 4 + j
            · simp [h5, show i < 4 + (j + 1) by omega, show ¬ i - j = 4 by omega]
            · simp [h5, show ¬ i < 4 + (j + 1) by omega, show ¬ i - j = 4 by omega]
      · rintro ⟨x, c⟩ ⟨hc, hx, hb⟩
        simp only at hc hx hb
        subst hc
        simp only [m_X12_left_L32]
        rw [if_pos (by omega), Hp_some, Lq_inr]
        refine ⟨?_, hq⟩
        apply tb_ext hx (orI_in _ _)
        intro i hi
        rw [hb i hi, tb_or, show (4 : Int) = ((4 : Nat) : Int) from rfl, tb_shl _ (by omega)]
        by_cases h4 : 4 ≤ i
        · by_cases h5 : i < 12
          · simp [h4, h5, hi]
          · simp [h4, h5, hi, b2 (i - 4) (by omega)]
        · simp [h4]
    · simp only [if_neg hr, if_true, Hp_some]
      exact ⟨by trivial, hq⟩
