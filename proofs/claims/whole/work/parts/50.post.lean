/-! post -/
/-- a watcher has a post, not struck, with a tick of a .. b - 1 -/
def Busy (σ : St) (n w a b : Int) : Prop := ∃ k : Nat, (k : Int) < n ∧ σ 195 k = 0 ∧ σ 196 k = w ∧ σ 198 k < b ∧ a < σ 199 k ∧ ¬ Strk σ n k
theorem isPosted_sp {σ : St} {w a b : Int} (hB : iBook σ) (hs10 : σ 1 4 ≤ 10) : Hp (m_X1_isPosted w a b σ) (fun r => LookP σ r.2 (σ 30 5) ∧ (r.1 = 0 ∨ r.1 = 1) ∧ (r.1 = 1 ↔ Busy σ (σ 30 5) w a b)) := by
  have b0 := hB.1
  rw [m_X1_isPosted, Hp_bind]
  refine Hp_mono (look_sp hB hs10 ⟨b0.2.1, Int.le_refl _⟩) ?_
  intro σ2 hl
  have f1 : σ2 30 5 = σ 30 5 := hl.1 30 5 rfl
  have f2 : σ2 32 = σ 32 := funext fun j => hl.1 32 j rfl
  have f3 : σ2 34 = σ 34 := funext fun j => hl.1 34 j rfl
  have f4 : σ2 35 = σ 35 := funext fun j => hl.1 35 j rfl
  rw [Hp_bind]
  refine Hp_up (fun j (x : Int) => x = (j : Int) ∧ ∀ k : Nat, k < j → ¬ (σ 195 k = 0 ∧ σ 196 k = w ∧ σ 198 k < b ∧ a < σ 199 k ∧ ¬ Strk σ (σ 30 5) k)) 0 (σ 30 5).toNat (by omega) (by omega) ⟨rfl, fun k h => by omega⟩ ?_ ?_
  · rintro j x - h2 ⟨e1, e2⟩
    subst e1
    obtain ⟨b1, b2, b3, b4, b5, -⟩ := book_at hB (i := j) (by omega)
    have hgo : ¬ (σ 195 j = 0 ∧ σ 196 j = w ∧ σ 198 j < b ∧ a < σ 199 j ∧ ¬ Strk σ (σ 30 5) j) → Lq (fun (a_1 : Unit ⊕ (Int × St)) => Hp (match a_1 with | .inl () => some (0, σ2) | .inr q => some q) (fun r => LookP σ r.2 (σ 30 5) ∧ (r.1 = 0 ∨ r.1 = 1) ∧ (r.1 = 1 ↔ Busy σ (σ 30 5) w a b))) (fun x => x = ((j + 1 : Nat) : Int) ∧ ∀ k : Nat, k < j + 1 → ¬ (σ 195 k = 0 ∧ σ 196 k = w ∧ σ 198 k < b ∧ a < σ 199 k ∧ ¬ Strk σ (σ 30 5) k)) (Sum.inl (wr ((j : Int) + 1))) := by
      intro hc
      rw [Lq_inl]
      refine ⟨by rw [wr_id' (by omega) (by omega)]; omega, ?_⟩
      intro k h4
      by_cases hk : k = j
      · subst hk; exact hc
      · exact e2 k (by omega)
    obtain ⟨h, hb1, hb2, hb3⟩ := holds_at hB ⟨b0.2.1, Int.le_refl _⟩ hl.1 hl.2.1 hl.2.2.1 (i := j) (by omega) 0
    simp only [m_X1_isPosted_L11]
    rw [if_neg (by omega), hb1, bnd_s]
    by_cases hz : h = 0
    · rw [if_pos hz, Hp_some]
      refine hgo (fun q => ?_)
      have := hb3.mpr ⟨q.1, q.2.2.2.2⟩
      omega
    · have hb4 := hb3.mp (by omega)
      have b6 := b5 (by omega)
      rw [if_neg hz, rd_ok (by omega) (by omega), bnd_s, Int.toNat_natCast, f2]
      by_cases h3 : σ 32 j = w
      · rw [if_pos h3, rd_ok (by omega) (by omega), bnd_s, Int.toNat_natCast, f3]
        by_cases h4 : b ≤ σ 34 j
        · rw [if_pos h4, Hp_some]
          exact hgo (fun q => by omega)
        · rw [if_neg h4, rd_ok (by omega) (by omega), bnd_s, Int.toNat_natCast, f4]
          by_cases h5 : σ 35 j ≤ a
          · rw [if_pos h5, Hp_some]
            exact hgo (fun q => by omega)
          · rw [if_neg h5, Hp_some, Lq_inr]
            simp only [Hp_some]
            refine ⟨hl, Or.inr (by trivial), fun _ => ⟨j, by omega, hb4.1, by omega, by omega, by omega, hb4.2⟩, fun _ => by trivial⟩
      · rw [if_neg h3, Hp_some]
        exact hgo (fun q => by omega)
  · rintro x ⟨e1, e2⟩
    subst e1
    simp only [m_X1_isPosted_L11]
    rw [if_pos (by omega), Hp_some, Lq_inr]
    simp only [Hp_some]
    refine ⟨hl, Or.inl (by trivial), fun q => absurd q (by decide), ?_⟩
    rintro ⟨k, h1, h3⟩
    exact absurd h3 (e2 k (by omega))
theorem m_busy_sp {σ : St} {n w a b : Int} (h41 : σ 170 41 = n) (hn : 0 ≤ n ∧ n ≤ 150) {Q : Unit ⊕ (Int × St) → Prop} (hy : Busy σ n w a b → Q (.inr (-1, σ))) (hno : ¬ Busy σ n w a b → Q (.inl ())) : Hp (lp (fun x => m_X12_post_L54 σ w b a x) 0) Q := by
  refine Hp_up (fun j (x : Int) => x = (j : Int) ∧ ∀ k : Nat, k < j → ¬ (σ 195 k = 0 ∧ σ 196 k = w ∧ σ 198 k < b ∧ a < σ 199 k ∧ ¬ Strk σ n k)) 0 n.toNat (by omega) (by omega) ⟨rfl, fun k h => by omega⟩ ?_ ?_
  · rintro j x - h2 ⟨e1, e2⟩
    subst e1
    have hgo : ¬ (σ 195 j = 0 ∧ σ 196 j = w ∧ σ 198 j < b ∧ a < σ 199 j ∧ ¬ Strk σ n j) → Lq Q (fun x => x = ((j + 1 : Nat) : Int) ∧ ∀ k : Nat, k < j + 1 → ¬ (σ 195 k = 0 ∧ σ 196 k = w ∧ σ 198 k < b ∧ a < σ 199 k ∧ ¬ Strk σ n k)) (Sum.inl (wr ((j : Int) + 1))) := by
      intro hc
      rw [Lq_inl]
      refine ⟨by rw [wr_id' (by omega) (by omega)]; omega, ?_⟩
      intro k h4
      by_cases hk : k = j
      · subst hk; exact hc
      · exact e2 k (by omega)
    obtain ⟨h, hb1, hb2, hb3⟩ := m_isStruck_sp (σ := σ) (f := j) hn (by omega)
    simp only [m_X12_post_L54]
    rw [if_neg (by omega), rd_ok (by omega) (by omega), bnd_s, Int.toNat_natCast]
    by_cases h0 : σ 195 j = 0
    · rw [if_pos h0, rd_ok (by omega) (by omega), bnd_s, Int.toNat_natCast]
      by_cases h3 : σ 196 j = w
      · rw [if_pos h3, rd_ok (by omega) (by omega), bnd_s, Int.toNat_natCast]
        by_cases h4 : b ≤ σ 198 j
        · rw [if_pos h4, Hp_some]
          exact hgo (fun q => by omega)
        · rw [if_neg h4, rd_ok (by omega) (by omega), bnd_s, Int.toNat_natCast]
          by_cases h5 : σ 199 j ≤ a
          · rw [if_pos h5, Hp_some]
            exact hgo (fun q => by omega)
          · rw [if_neg h5, h41, hb1, bnd_s]
            by_cases hz : h = 0
            · rw [if_pos hz, Hp_some, Lq_inr]
              apply hy
              refine ⟨j, by omega, h0, h3, by omega, by omega, fun q => ?_⟩
              have := hb3.mpr q
              omega
            · rw [if_neg hz, Hp_some]
              exact hgo (fun q => q.2.2.2.2 (hb3.mp (by omega)))
      · rw [if_neg h3, Hp_some]
        exact hgo (fun q => h3 q.2.1)
    · rw [if_neg h0, Hp_some]
      exact hgo (fun q => h0 q.1)
  · rintro x ⟨e1, e2⟩
    subst e1
    simp only [m_X12_post_L54]
    rw [if_pos (by omega), Hp_some, Lq_inr]
    apply hno
    rintro ⟨k, h1, h3⟩
    exact absurd h3 (e2 k (by omega))
theorem busy_cg {σ σ' : St} (e1 : σ' 195 = σ 195) (e2 : σ' 196 = σ 196) (e3 : σ' 198 = σ 198) (e4 : σ' 199 = σ 199) (n w a b : Int) : Busy σ' n w a b ↔ Busy σ n w a b := by
  unfold Busy
  simp only [strk_cg e1 e2]
  rw [e1, e2, e3, e4]
theorem c_post : PS_post Inv := by
  intro σ a1 a2 a3 a4 hok hI h1 h2 h3 h4
  apply ps_of
  have hI2 := hI
  obtain ⟨k1, k2, k3, k4, k5, k6, k7, k8, k9, k10, k11⟩ := hI2
  have hB := k7
  have b0 := k7.1
  have ts := k1.1
  have hq := inv_thr (x := 0) hI
  clear k2 k3 k4 k5 k6 k8 k9 k10 k11
  have hbad : ¬ ((0 ≤ a1 ∧ a1 < 4) ∧ (0 ≤ a2 ∧ a2 < σ 1 4) ∧ 0 ≤ a3 ∧ a3 < a4 ∧ a4 ≤ 96) → Hp (m_X12_post a1 a2 a3 a4 σ) (fun q => q.1 = -1 ∧ Inv q.2) := by
    intro hc
    simp only [m_X12_post, Hp_bind, Hp_pt, m_isSpot_eq]
    simp (disch := decide) only [up_eq, up_cell, up_slot, Int.toNat_natCast, true_and, and_true, eq_self]
    by_cases c1 : σ 170 41 = 150
    · rw [if_pos c1, Hp_some]; exact ⟨rfl, hq⟩
    · rw [if_neg c1]
      by_cases c2 : a1 < 0
      · rw [if_pos c2, Hp_some]; exact ⟨rfl, hq⟩
      · rw [if_neg c2]
        by_cases c3 : 3 < a1
        · rw [if_pos c3, Hp_some]; exact ⟨rfl, hq⟩
        · rw [if_neg c3, bnd_s, ts.1]
          by_cases c4 : 0 ≤ a2 ∧ a2 < σ 1 4
          · simp only [if_pos c4, Int.reduceEq, if_false]
            by_cases c5 : a3 < 0
            · rw [if_pos c5, Hp_some]; exact ⟨rfl, hq⟩
            · rw [if_neg c5]
              by_cases c6 : a4 ≤ a3
              · rw [if_pos c6, Hp_some]; exact ⟨rfl, hq⟩
              · rw [if_neg c6, if_neg (by omega), Hp_some]; exact ⟨rfl, hq⟩
          · simp only [if_neg c4, if_true, Hp_some]; exact ⟨by trivial, hq⟩
  rw [m_X11_post, hasSpot_eq (by omega)]
  by_cases c2 : a1 < 0
  · rw [if_pos c2, Hp_some]; exact hbad (by omega)
  · rw [if_neg c2]
    by_cases c3 : 4 ≤ a1
    · rw [if_pos c3, Hp_some]; exact hbad (by omega)
    · rw [if_neg c3, bnd_s]
      by_cases c4 : 0 ≤ a2 ∧ a2 < σ 1 4
      · simp only [if_pos c4, Int.reduceEq, if_false]
        by_cases c5 : a3 < 0
        · rw [if_pos c5, Hp_some]; exact hbad (by omega)
        · rw [if_neg c5]
          by_cases c6 : a4 ≤ a3
          · rw [if_pos c6, Hp_some]; exact hbad (by omega)
          · rw [if_neg c6]
            by_cases c7 : 96 < a4
            · rw [if_pos c7, Hp_some]; exact hbad (by omega)
            · rw [if_neg c7, Hp_bind]
              refine Hp_mono (isPosted_sp hB (by omega)) ?_
              rintro ⟨y, σ1⟩ ⟨hl, g1, g2⟩
              simp only at hl g1 g2 ⊢
              have hI1 := inv_look hI hl
              have hq1 := inv_thr (x := 0) hI1
              have d1 : σ1 195 = σ 195 := funext fun j => hl.1 195 j rfl
              have d2 : σ1 196 = σ 196 := funext fun j => hl.1 196 j rfl
              have d3 : σ1 198 = σ 198 := funext fun j => hl.1 198 j rfl
              have d4 : σ1 199 = σ 199 := funext fun j => hl.1 199 j rfl
              have e30 : σ1 30 5 = σ 30 5 := hl.1 30 5 rfl
              have e14 : σ1 1 4 = σ 1 4 := hl.1 1 4 rfl
              have e41 : σ1 170 41 = σ 170 41 := hl.1 170 41 rfl
              have e170 : σ1 170 30 = σ 170 30 := hl.1 170 30 rfl
              by_cases hy : y = 0
              · rw [if_pos hy, Hp_bind]
                have hnb : ¬ Busy σ (σ 30 5) a1 a3 a4 := fun q => by have := g2.mpr q; omega
                by_cases hn : σ 30 5 < 150
                · refine Hp_mono (add_sp (by omega) (by omega)) ?_
                  rintro ⟨y1, σ2⟩ ⟨g3, g4⟩
                  simp only at g3 g4
                  rw [Hp_some]
                  simp only [m_X12_post, Hp_bind, Hp_pt, m_isSpot_eq]
                  have d41 : σ2 170 41 = σ 170 41 := (g4.1 170 41 rfl).trans e41
                  have d30 : σ2 170 30 = σ 170 30 := (g4.1 170 30 rfl).trans e170
                  simp (disch := decide) only [up_eq, up_cell, up_slot, Int.toNat_natCast, true_and, and_true, eq_self]
                  rw [if_neg (by omega), if_neg (by omega), if_neg (by omega), bnd_s, d30, ts.1]
                  simp only [if_pos c4, Int.reduceEq, if_false]
                  rw [if_neg c5, if_neg c6, if_pos (by omega), Hp_bind]
                  have u1 : up σ2 170 0 0 195 = σ 195 := by rw [up_ne 195 (by decide), ← d1]; exact funext fun j => g4.1 195 j rfl
                  have u2 : up σ2 170 0 0 196 = σ 196 := by rw [up_ne 196 (by decide), ← d2]; exact funext fun j => g4.1 196 j rfl
                  have u3 : up σ2 170 0 0 198 = σ 198 := by rw [up_ne 198 (by decide), ← d3]; exact funext fun j => g4.1 198 j rfl
                  have u4 : up σ2 170 0 0 199 = σ 199 := by rw [up_ne 199 (by decide), ← d4]; exact funext fun j => g4.1 199 j rfl
                  have hbc := busy_cg u1 u2 u3 u4 (σ 30 5) a1 a3 a4
                  refine m_busy_sp (n := σ 30 5) (by rw [up_slot (by decide)]; omega) (by omega) ?_ ?_
                  · intro q; exact absurd (hbc.mp q) hnb
                  · intro _
                    simp only [Hp_bind]
                    refine Hp_mono (fact_sp (by rw [up_slot (by decide)]; omega) (by rw [up_slot (by decide)]; omega)) ?_
                    rintro ⟨y2, σ3⟩ ⟨g5, g6⟩
                    simp only at g5 g6
                    rw [up_slot (by decide)] at g5
                    rw [Hp_some]
                    exact ⟨by simp only; omega, inv_app hI1 g4 g6 (by omega) (by omega) (by omega) (by omega) (by omega) (by omega)⟩
                · simp only [m_X1_add]
                  rw [if_neg (by omega), Hp_some, Hp_some]
                  simp only [m_X12_post, Hp_bind, Hp_pt]
                  simp (disch := decide) only [up_eq, up_cell, up_slot, Int.toNat_natCast, true_and, and_true, eq_self]
                  rw [if_pos (by omega), Hp_some]
                  exact ⟨rfl, hq1⟩
              · rw [if_neg hy, Hp_some]
                have hb : Busy σ (σ 30 5) a1 a3 a4 := g2.mp (by omega)
                simp only [m_X12_post, Hp_bind, Hp_pt, m_isSpot_eq]
                simp (disch := decide) only [up_eq, up_cell, up_slot, Int.toNat_natCast, true_and, and_true, eq_self]
                by_cases hn : σ1 170 41 = 150
                · rw [if_pos hn, Hp_some]; exact ⟨rfl, hq1⟩
                · rw [if_neg hn, if_neg (by omega), if_neg (by omega), bnd_s, e170, ts.1]
                  simp only [if_pos c4, Int.reduceEq, if_false]
                  rw [if_neg c5, if_neg c6, if_pos (by omega), Hp_bind]
                  have u1 : up σ1 170 0 0 195 = σ 195 := by rw [up_ne 195 (by decide), ← d1]
                  have u2 : up σ1 170 0 0 196 = σ 196 := by rw [up_ne 196 (by decide), ← d2]
                  have u3 : up σ1 170 0 0 198 = σ 198 := by rw [up_ne 198 (by decide), ← d3]
                  have u4 : up σ1 170 0 0 199 = σ 199 := by rw [up_ne 199 (by decide), ← d4]
                  have hbc := busy_cg u1 u2 u3 u4 (σ 30 5) a1 a3 a4
                  refine m_busy_sp (n := σ 30 5) (by rw [up_slot (by decide)]; omega) (by omega) ?_ ?_
                  · intro _
                    simp only [Hp_some]
                    exact ⟨by trivial, hq1⟩
                  · intro q; exact absurd (hbc.mpr hb) q
      · simp only [if_neg c4, if_true, Hp_some]; exact hbad (by omega)
