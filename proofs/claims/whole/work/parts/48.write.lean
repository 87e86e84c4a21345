/-! give, agent, feed -/
theorem c_give : PS_give Inv := by
  intro σ a1 a2 hok hI h1 h2
  apply ps_of
  have hI2 := hI
  obtain ⟨k1, k2, k3, k4, k5, k6, k7, k8, k9, k10, k11⟩ := hI2
  obtain ⟨⟨t10, t11, t12⟩, t13⟩ := k6
  have hq := inv_thr (x := 0) hI
  obtain ⟨p1, p2, p3, p4, -⟩ := k11
  have hlive : 0 ≤ σ 170 17 ∧ σ 170 17 < 2 := by omega
  clear k1 k2 k3 k4 k5 k7 k8 k9 k10
  rw [m_X11_give, isAgent_eq t12]
  simp only [Option.bind_some]
  by_cases hr : 0 ≤ a1 ∧ a1 < σ 0 6
  · rw [if_pos hr, if_neg (by decide)]
    obtain ⟨n, rfl⟩ := Int.eq_ofNat_of_zero_le hr.1
    by_cases hc : a2 < -1
    · rw [if_pos hc, Hp_some]
      simp only [m_X12_give, m_isAgent_eq, Hp_bind, Hp_pt, Hp_some]
      simp (disch := decide) only [up_eq, up_cell, up_slot, Int.toNat_natCast, true_and, and_true, eq_self]
      rw [t10, if_pos hr, if_neg (by decide), if_pos hc, Hp_some]
      exact ⟨rfl, hq⟩
    · rw [if_neg hc]
      by_cases hd : a2 < σ 22 8
      · rw [if_pos hd, rr_ok (by omega) (by omega)]
        simp only [Option.bind_some, Int.toNat_natCast, rf_ag (show n < 8 by omega), pt, Hp_some]
        simp only [m_X12_give, m_isAgent_eq, Hp_bind, Hp_pt, Hp_some]
        have hne : ∀ k : Nat, 100 ≤ k → k ≠ 39 + 7 * n := by intro k hk; omega
        have e0 : ∀ k j : Nat, 100 ≤ k → j ≠ 0 → up (up σ (39 + 7 * n) 2 a2) 170 0 0 k j = σ k j := by
          intro k j hk hj
          rw [up_slot hj, up_cell (hne k hk)]
        rw [e0 170 35 (by decide) (by decide), t10, if_pos hr, if_neg (by decide), if_neg hc, e0 170 17 (by decide) (by decide), Hp_bind, Hp_rd]
        refine ⟨hlive, ?_⟩
        have e1 : up (up σ (39 + 7 * n) 2 a2) 170 0 0 178 = σ 178 := by
          rw [up_ne 178 (by decide), up_ne 178 (hne 178 (by decide))]
        rw [e1, p2, if_pos hd, Hp_bind, Hp_wt]
        refine ⟨by omega, ?_⟩
        rw [Hp_some, Int.toNat_natCast]
        refine ⟨rfl, ?_⟩
        have hin : ∀ n : Fin 8, inR ([(192, 192)], [(170, 0), (39, 2), (46, 2), (53, 2), (60, 2), (67, 2), (74, 2), (81, 2), (88, 2)]) (39 + 7 * n.val) 2 = true := by decide
        refine inv_step (L := ([(192, 192)], [(170, 0), (39, 2), (46, 2), (53, 2), (60, 2), (67, 2), (74, 2), (81, 2), (88, 2)])) hI ?_ (Or.inl (by decide +kernel)) (Or.inl (by decide +kernel)) (Or.inl (by decide +kernel)) (Or.inl (by decide +kernel)) (Or.inl (by decide +kernel)) (Or.inr ?_) (Or.inl (by decide +kernel)) (Or.inl (by decide +kernel)) (Or.inl (by decide +kernel)) (Or.inl (by decide +kernel)) (Or.inl (by decide +kernel))
        · exact Wr_up (Wr_up (Wr_up Wr_rf (hin ⟨n, by omega⟩)) rfl) rfl
        · refine ⟨?_, ?_⟩
          · simp (disch := omega) only [up_eq, up_cell, up_slot, and_true, true_and, implies_true]
            omega
          · intro b hb
            have := t13 b hb
            by_cases hbn : b = n
            · subst hbn
              simp (disch := omega) only [up_eq, up_cell, up_slot, and_true, true_and, implies_true]
              omega
            · simp (disch := omega) only [up_eq, up_cell, up_slot, and_true, true_and, implies_true]
              omega
      · rw [if_neg hd, Hp_some]
        simp only [m_X12_give, m_isAgent_eq, Hp_bind, Hp_pt, Hp_some]
        simp (disch := decide) only [up_eq, up_cell, up_slot, Int.toNat_natCast, true_and, and_true, eq_self]
        rw [t10, if_pos hr, if_neg (by decide), if_neg hc, Hp_bind, Hp_rd]
        refine ⟨hlive, ?_⟩
        simp (disch := decide) only [up_eq, up_cell, up_slot, Int.toNat_natCast, true_and, and_true, eq_self]
        rw [p2, if_neg hd, Hp_some]
        exact ⟨rfl, hq⟩
  · rw [if_neg hr, if_pos rfl, Hp_some]
    simp only [m_X12_give, m_isAgent_eq, Hp_bind, Hp_pt, Hp_some]
    simp (disch := decide) only [up_eq, up_cell, up_slot, Int.toNat_natCast, true_and, and_true, eq_self]
    rw [t10, if_neg hr, if_pos rfl, Hp_some]
    exact ⟨rfl, hq⟩
theorem c_agent : PS_agent Inv := by
  intro σ a1 a2 hok hI h1 h2
  apply ps_of
  have hI2 := hI
  obtain ⟨k1, k2, k3, k4, k5, k6, k7, k8, k9, k10, k11⟩ := hI2
  obtain ⟨⟨t10, t11, t12⟩, t13⟩ := k6
  obtain ⟨⟨t1, t2, t3⟩, -, -⟩ := k1
  have hq := inv_thr (x := 0) hI
  clear k2 k3 k4 k5 k7 k8 k11
  simp only [m_X11_agent, hasSpot_eq t3, Option.bind_some]
  have hm : ∀ τ : St, τ = up σ 170 0 0 → ((8 ≤ σ 0 6) ∨ ¬ (0 ≤ a1 ∧ a1 < σ 1 4) ∨ ¬ (0 ≤ a2 ∧ a2 < 256)) → Hp (m_X12_agent a1 a2 σ) (fun q => q.1 = -1 ∧ Inv q.2) := by
    intro τ hτ hc
    simp only [m_X12_agent, m_isSpot_eq, Hp_bind, Hp_pt, Hp_some]
    simp (disch := decide) only [up_eq, up_cell, up_slot, Int.toNat_natCast, true_and, and_true, eq_self]
    by_cases c1 : σ 170 35 = 8
    · rw [if_pos c1, Hp_some]; exact ⟨rfl, hq⟩
    · rw [if_neg c1]
      rw [t1]
      by_cases c2 : 0 ≤ a1 ∧ a1 < σ 1 4
      · simp only [if_pos c2, Option.bind_some, Int.reduceEq, if_false]
        by_cases c3 : a2 < 0
        · rw [if_pos c3, Hp_some]; exact ⟨rfl, hq⟩
        · rw [if_neg c3, if_neg (by omega), Hp_some]; exact ⟨rfl, hq⟩
      · simp only [if_neg c2, Option.bind_some, if_true, Hp_some]; exact ⟨by trivial, hq⟩
  by_cases c1 : 8 ≤ σ 0 6
  · rw [if_pos c1, Hp_some]
    exact hm _ rfl (Or.inl c1)
  · rw [if_neg c1]
    by_cases c2 : 0 ≤ a1 ∧ a1 < σ 1 4
    · simp only [if_pos c2, Int.reduceEq, if_false]
      by_cases c3 : a2 < 0
      · rw [if_pos c3, Hp_some]
        exact hm _ rfl (Or.inr (Or.inr (by omega)))
      · rw [if_neg c3]
        by_cases c4 : a2 < 256
        · rw [if_pos c4, rr_ok (by omega) (by omega)]
          obtain ⟨n, hn⟩ := Int.eq_ofNat_of_zero_le t11
          have hn8 : n < 8 := by omega
          rw [hn]
          simp only [Option.bind_some, Int.toNat_natCast, rf_ag hn8, pt, Hp_some]
          simp (disch := omega) only [up_eq, up_cell, up_slot, wr_id']
          simp only [m_X12_agent, m_isSpot_eq, Hp_bind, Hp_pt, Hp_some]
          simp (disch := omega) only [up_eq, up_cell, up_slot, wr_id']
          have hn35 : σ 170 35 = (n : Int) := by omega
          rw [if_neg (by omega), t1, if_pos c2]
          simp only [Option.bind_some, Int.reduceEq, if_false]
          rw [if_neg c3, if_pos (by omega), hn35]
          simp only [Hp_bind, Hp_wt, Hp_pt, Hp_some, Int.toNat_natCast]
          simp (disch := omega) only [up_eq, up_cell, up_slot, wr_id']
          rw [hn35, hn]
          simp (disch := omega) only [wr_id', Int.toNat_natCast]
          refine ⟨by omega, by omega, by omega, by omega, ?_⟩
          have hin : ∀ n : Fin 8, ∀ j : Fin 2, inR ([(190, 192)], [(170, 0), (0, 6), (170, 35), (170, 74), (39, 0), (46, 0), (53, 0), (60, 0), (67, 0), (74, 0), (81, 0), (88, 0), (39, 1), (46, 1), (53, 1), (60, 1), (67, 1), (74, 1), (81, 1), (88, 1)]) (39 + 7 * n.val) j.val = true := by decide
          refine inv_step (L := ([(190, 192)], [(170, 0), (0, 6), (170, 35), (170, 74), (39, 0), (46, 0), (53, 0), (60, 0), (67, 0), (74, 0), (81, 0), (88, 0), (39, 1), (46, 1), (53, 1), (60, 1), (67, 1), (74, 1), (81, 1), (88, 1)])) hI ?_ (Or.inl (by decide +kernel)) (Or.inl (by decide +kernel)) (Or.inl (by decide +kernel)) (Or.inl (by decide +kernel)) (Or.inl (by decide +kernel)) (Or.inr ?_) (Or.inl (by decide +kernel)) (Or.inr ?_) (Or.inr ?_) (Or.inr ?_) (Or.inl (by decide +kernel))
          · exact Wr_up (Wr_up (Wr_up (Wr_up (Wr_up (Wr_up (Wr_up (Wr_up (Wr_up Wr_rf (hin ⟨n, hn8⟩ 0)) (hin ⟨n, hn8⟩ 1)) rfl) rfl) rfl) rfl) rfl) rfl) rfl
          · refine ⟨?_, ?_⟩
            · simp (disch := omega) only [up_eq, up_cell, up_slot, and_true, true_and, implies_true]
              omega
            · intro b hb
              have := t13 b hb
              by_cases hbn : b = n
              · subst hbn
                simp (disch := omega) only [up_eq, up_cell, up_slot, and_true, true_and, implies_true]
                omega
              · simp (disch := omega) only [up_eq, up_cell, up_slot, and_true, true_and, implies_true]
                omega
          · left
            rw [up_eq]
          · obtain ⟨w1, w2⟩ := k9
            refine ⟨?_, ?_⟩
            · intro i hi hle
              simp (disch := omega) only [up_eq, up_cell, up_slot, and_true, true_and, implies_true] at hle ⊢
              exact w1 i hi (by omega)
            · simp (disch := omega) only [up_eq, up_cell, up_slot, and_true, true_and, implies_true]
              exact w2
          · rcases k10 with ⟨r1, r2, r3⟩ | ⟨⟨r1, r2, r3, r4⟩, r5, r6, r7, r8, r9⟩
            · left
              simp (disch := omega) only [up_eq, up_cell, up_slot, and_true, true_and, implies_true]
              exact ⟨r1, r2, r3⟩
            · right
              refine ⟨?_, ?_, ?_, ?_, ?_, ?_⟩
              · simp (disch := omega) only [up_eq, up_cell, up_slot, and_true, true_and, implies_true]
                exact ⟨r1, r2, r3, by omega⟩
              · intro b hb hb8
                simp (disch := omega) only [up_eq, up_cell, up_slot, and_true, true_and, implies_true] at hb ⊢
                exact r5 b hb hb8
              · simp (disch := omega) only [up_eq, up_cell, up_slot, and_true, true_and, implies_true]
                exact r6
              · simp (disch := omega) only [up_eq, up_cell, up_slot, and_true, true_and, implies_true]
                exact r7
              · simp (disch := omega) only [up_eq, up_cell, up_slot, and_true, true_and, implies_true]
                exact r8
              · simp (disch := omega) only [up_eq, up_cell, up_slot, and_true, true_and, implies_true]
                exact r9
        · rw [if_neg c4, Hp_some]
          exact hm _ rfl (Or.inr (Or.inr (by omega)))
    · simp only [if_neg c2, if_true, Hp_some]
      exact hm _ rfl (Or.inr (Or.inl c2))
/-- four bytes more -/
def Pu (c k j : Nat) (g : Nat → Int) (σ σ' : St) : Prop := Wr ([(c, c)], [(k, j)]) σ σ' ∧ σ' k j = σ k j + 4 ∧ (∀ i : Nat, (i : Int) < σ k j → σ' c i = σ c i) ∧ ∀ q : Nat, q < 4 → σ' c ((σ k j).toNat + q) = g q
theorem x_add_sp {σ : St} {a : Int} (h0 : 0 ≤ σ 16 0) (h1 : σ 16 0 ≤ 1996) : Hp (m_X9_add a σ) (Pu 21 16 0 (fun q => andI (ushrI a (24 - 8 * (q : Int))) 255) σ) := by
  simp only [m_X9_add, Hp_bind]
  refine Hp_dn (fun j (x : Int × St) => x.1 = 8 * (j : Int) - 8 ∧ Wr ([(21, 21)], [(16, 0)]) σ x.2 ∧ x.2 16 0 = σ 16 0 + (4 - (j : Int)) ∧ (∀ i : Nat, (i : Int) < σ 16 0 → x.2 21 i = σ 21 i) ∧ ∀ q : Nat, q + j < 4 → x.2 21 ((σ 16 0).toNat + q) = andI (ushrI a (24 - 8 * (q : Int))) 255) 4 (by decide) ⟨rfl, Wr_rf, by simp, fun _ _ => rfl, fun q hq => by omega⟩ ?_ ?_
  · rintro j ⟨x, τ⟩ hj ⟨e1, e2, e3, e4, e5⟩
    simp only at e1 e2 e3 e4 e5
    subst e1
    simp only [m_X9_add_L3]
    rw [if_neg (by omega), if_neg (by omega), Hp_bind, Hp_wt]
    refine ⟨by omega, ?_⟩
    rw [Hp_bind, Hp_pt, Hp_some, Lq_inl, up_cell (by decide), wr_id' (by omega) (by omega), wr_id' (by omega) (by omega)]
    refine ⟨by simp only; omega, Wr_up (Wr_up e2 rfl) rfl, ?_, ?_, ?_⟩
    · simp only [up_eq]; omega
    · intro i hi
      simp only
      rw [up_cell (by decide), up_slot (by omega)]
      exact e4 i hi
    · intro q hq
      simp only
      rw [up_cell (by decide)]
      by_cases hz : q + (j + 1) < 4
      · rw [up_slot (by omega)]
        exact e5 q hz
      · have : q = 3 - j := by omega
        subst this
        rw [show (τ 16 0).toNat = (σ 16 0).toNat + (3 - j) by omega, up_eq]
        congr 2
        omega
  · rintro ⟨x, τ⟩ ⟨e1, e2, e3, e4, e5⟩
    simp only at e1 e2 e3 e4 e5
    subst e1
    simp only [m_X9_add_L3]
    rw [if_pos (by omega), Hp_some, Lq_inr, Hp_some]
    exact ⟨e2, by omega, e4, fun q hq => e5 q hq⟩
theorem m_put_sp {σ : St} {a : Int} (h0 : 0 ≤ σ 170 2) (h1 : σ 170 2 ≤ 1996) : Hp (m_X12_put a σ) (Pu 171 170 2 (fun q => i2bI (shrI a (24 - 8 * (q : Int)))) σ) := by
  simp only [m_X12_put, Hp_bind]
  refine Hp_dn (fun j (x : Int × St) => x.1 = 8 * (j : Int) - 8 ∧ Wr ([(171, 171)], [(170, 2)]) σ x.2 ∧ x.2 170 2 = σ 170 2 + (4 - (j : Int)) ∧ (∀ i : Nat, (i : Int) < σ 170 2 → x.2 171 i = σ 171 i) ∧ ∀ q : Nat, q + j < 4 → x.2 171 ((σ 170 2).toNat + q) = i2bI (shrI a (24 - 8 * (q : Int)))) 4 (by decide) ⟨rfl, Wr_rf, by simp, fun _ _ => rfl, fun q hq => by omega⟩ ?_ ?_
  · rintro j ⟨x, τ⟩ hj ⟨e1, e2, e3, e4, e5⟩
    simp only at e1 e2 e3 e4 e5
    subst e1
    simp only [m_X12_put_L3]
    rw [if_neg (by omega), Hp_bind, Hp_wt]
    refine ⟨by omega, ?_⟩
    rw [Hp_bind, Hp_pt, Hp_some, Lq_inl, up_cell (by decide), wr_id' (by omega) (by omega), wr_id' (by omega) (by omega)]
    refine ⟨by simp only; omega, Wr_up (Wr_up e2 rfl) rfl, ?_, ?_, ?_⟩
    · simp only [up_eq]; omega
    · intro i hi
      simp only
      rw [up_cell (by decide), up_slot (by omega)]
      exact e4 i hi
    · intro q hq
      simp only
      rw [up_cell (by decide)]
      by_cases hz : q + (j + 1) < 4
      · rw [up_slot (by omega)]
        exact e5 q hz
      · have : q = 3 - j := by omega
        subst this
        rw [show (τ 170 2).toNat = (σ 170 2).toNat + (3 - j) by omega, up_eq]
        congr 2
        omega
  · rintro ⟨x, τ⟩ ⟨e1, e2, e3, e4, e5⟩
    simp only at e1 e2 e3 e4 e5
    subst e1
    simp only [m_X12_put_L3]
    rw [if_pos (by omega), Hp_some, Lq_inr, Hp_some]
    exact ⟨e2, by omega, e4, fun q hq => e5 q hq⟩
theorem tb_ushr (x : Int) {s : Nat} (hs : s < 32) {i : Nat} (hi : i + s < 32) : tb (ushrI x (s : Int)) i = tb x (i + s) := by
  unfold tb ushrI
  rw [Int32.ofInt_toInt]
  show ((Int32.ofInt x).toUInt32 >>> _).toInt32.toBitVec.getLsbD i = _
  have : ∀ s : Fin 32, ((Int32.ofInt (s.val : Int)).toUInt32 &&& Int32.toUInt32 31).toBitVec % 32 = BitVec.ofNat 32 s.val := by decide
  rw [UInt32.toBitVec_toInt32, UInt32.toBitVec_shiftRight, this ⟨s, hs⟩]
  simp only [BitVec.ushiftRight_eq', BitVec.toNat_ofNat, BitVec.getLsbD_ushiftRight]
  rw [Nat.mod_eq_of_lt (by omega : s < 2 ^ 32), Nat.add_comm]
  rfl
theorem tb_byte (x : Int) {i : Nat} (hi : i < 8) : tb (i2bI x) i = tb x i := by
  unfold tb i2bI
  rw [Int32.ofInt_toInt, Int8.toBitVec_toInt32, Int32.toBitVec_toInt8]
  rw [BitVec.getLsbD_signExtend]
  rw [BitVec.getLsbD_signExtend]
  simp only [hi, show i < 32 by omega, decide_true, Bool.true_and, if_true]
theorem tb_255 (i : Nat) : tb 255 i = decide (i < 8) := by
  by_cases h : i < 32
  · have : ∀ i : Fin 32, tb 255 i.val = decide (i.val < 8) := by decide
    exact this ⟨i, h⟩
  · rw [tb_hi _ (by omega)]
    simp; omega
theorem byte_eq (a : Int) {q : Nat} (hq : q < 4) : andI (ushrI a (24 - 8 * (q : Int))) 255 = andI (i2bI (shrI a (24 - 8 * (q : Int)))) 255 := by
  have e : (24 : Int) - 8 * (q : Int) = ((24 - 8 * q : Nat) : Int) := by omega
  rw [e]
  apply tb_ext (andI_in _ _) (andI_in _ _)
  intro i hi
  rw [tb_and, tb_and, tb_255]
  by_cases h8 : i < 8
  · rw [tb_ushr _ (by omega) (by omega), tb_byte _ h8, tb_shr _ (by omega) (by omega)]
  · simp [h8]
/-- the tapes agree -/
def TE (c m : St) : Prop := m 170 2 = c 16 0 ∧ 0 ≤ c 16 0 ∧ ∀ i : Nat, (i : Int) < c 16 0 → c 21 i = andI (m 171 i) 255
theorem te_step {c c' m m' : St} {a : Int} (h : TE c m) (hc : Pu 21 16 0 (fun q => andI (ushrI a (24 - 8 * (q : Int))) 255) c c') (hm : Pu 171 170 2 (fun q => i2bI (shrI a (24 - 8 * (q : Int)))) m m') : TE c' m' := by
  obtain ⟨h1, h2, h3⟩ := h
  obtain ⟨c1, c2, c3, c4⟩ := hc
  obtain ⟨m1, m2, m3, m4⟩ := hm
  refine ⟨by omega, by omega, ?_⟩
  intro i hi
  by_cases hlt : (i : Int) < c 16 0
  · rw [c3 i hlt, m3 i (by omega)]
    exact h3 i hlt
  · obtain ⟨q, rfl⟩ : ∃ q, i = (c 16 0).toNat + q := ⟨i - (c 16 0).toNat, by omega⟩
    have hq : q < 4 := by omega
    rw [c4 q hq, show (c 16 0).toNat = (m 170 2).toNat by rw [h1], m4 q hq]
    exact byte_eq a hq
theorem c_feed : PS_feed Inv := by
  intro σ a1 a2 a3 a4 a5 hok hI h1 h2 h3 h4 h5
  apply ps_of
  have hI2 := hI
  obtain ⟨k1, k2, k3, k4, k5, k6, k7, k8, k9, k10, k11⟩ := hI2
  obtain ⟨⟨t1, t2, t3⟩, t4⟩ := k3
  have hq := inv_thr (x := 0) hI
  clear k1 k2 k4 k5 k6 k7 k8 k9 k10 k11
  simp only [m_X11_feed]
  by_cases hr : σ 16 0 ≤ 1980
  · rw [if_pos hr]
    simp only [Hp_bind, Hp_some]
    refine Hp_mono (x_add_sp t2 (by omega)) ?_
    intro c1 p1
    have q1 := p1.2.1
    refine Hp_mono (x_add_sp (by omega) (by omega)) ?_
    intro c2 p2
    have q2 := p2.2.1
    refine Hp_mono (x_add_sp (by omega) (by omega)) ?_
    intro c3 p3
    have q3 := p3.2.1
    refine Hp_mono (x_add_sp (by omega) (by omega)) ?_
    intro c4 p4
    have q4 := p4.2.1
    refine Hp_mono (x_add_sp (by omega) (by omega)) ?_
    intro c5 p5
    have q5 := p5.2.1
    have hw : Wr ([(21, 21)], [(16, 0)]) σ c5 := Wr_tr (Wr_tr (Wr_tr (Wr_tr p1.1 p2.1) p3.1) p4.1) p5.1
    have e1 : c5 170 2 = σ 170 2 := hw 170 2 rfl
    have e2 : c5 171 = σ 171 := funext fun j => hw 171 j rfl
    simp only [m_X12_feed, Hp_bind, Hp_pt]
    simp (disch := decide) only [up_eq, up_cell, up_slot, Int.toNat_natCast, true_and, and_true, eq_self]
    rw [wr_id' (by omega) (by omega), if_pos (by omega)]
    simp only [Hp_bind, Hp_some]
    have T0 : TE σ (up c5 170 0 0) := by
      refine ⟨?_, t2, ?_⟩
      · rw [up_slot (by decide), e1, t1]
      · intro i hi
        rw [up_cell (by decide), e2]
        exact t4 i hi
    have n0 : up c5 170 0 0 170 2 = σ 16 0 := T0.1
    refine Hp_mono (m_put_sp (by omega) (by omega)) ?_
    intro m1 r1
    have T1 := te_step T0 p1 r1
    have n1 := T1.1
    refine Hp_mono (m_put_sp (by omega) (by omega)) ?_
    intro m2 r2
    have T2 := te_step T1 p2 r2
    have n2 := T2.1
    refine Hp_mono (m_put_sp (by omega) (by omega)) ?_
    intro m3 r3
    have T3 := te_step T2 p3 r3
    have n3 := T3.1
    refine Hp_mono (m_put_sp (by omega) (by omega)) ?_
    intro m4 r4
    have T4 := te_step T3 p4 r4
    have n4 := T4.1
    refine Hp_mono (m_put_sp (by omega) (by omega)) ?_
    intro m5 r5
    have T5 := te_step T4 p5 r5
    have n5 := T5.1
    have hw2 : Wr ([(171, 171)], [(170, 2)]) (up c5 170 0 0) m5 := Wr_tr (Wr_tr (Wr_tr (Wr_tr r1.1 r2.1) r3.1) r4.1) r5.1
    have f1 : m5 16 0 = c5 16 0 := by
      rw [hw2 16 0 rfl, up_cell (by decide)]
    have f2 : m5 21 = c5 21 := funext fun j => by
      rw [hw2 21 j rfl, up_cell (by decide)]
    refine ⟨n5, ?_⟩
    refine inv_step (L := ([(21, 21), (171, 171)], [(16, 0), (170, 0), (170, 2)])) hI ?_ (Or.inl (by decide +kernel)) (Or.inl (by decide +kernel)) (Or.inr ?_) (Or.inl (by decide +kernel)) (Or.inl (by decide +kernel)) (Or.inl (by decide +kernel)) (Or.inl (by decide +kernel)) (Or.inl (by decide +kernel)) (Or.inl (by decide +kernel)) (Or.inl (by decide +kernel)) (Or.inl (by decide +kernel))
    · exact Wr_tr (Wr_up (Wr_sb hw rfl) rfl) (Wr_sb hw2 rfl)
    · refine ⟨by omega, ?_⟩
      intro i hi
      rw [f1] at hi
      rw [f2]
      exact T5.2.2 i hi
  · rw [if_neg hr, Hp_some]
    simp only [m_X12_feed, Hp_bind, Hp_pt]
    simp (disch := decide) only [up_eq, up_cell, up_slot, Int.toNat_natCast, true_and, and_true, eq_self]
    rw [wr_id' (by omega) (by omega), if_neg (by omega), Hp_some]
    exact ⟨rfl, hq⟩
