/-! touched -/
/-- the k-th fact says that agent a is turned, among the first n -/
def Trn (σ : St) (n : Int) (a k : Nat) : Prop := (k : Int) < n ∧ σ 195 k = 2 ∧ σ 196 k = a ∧ ¬ Strk σ n k
/-- the least tick of the first j facts -/
def TfP (σ : St) (n : Int) (a j : Nat) (v : Int) : Prop := (v = -1 ∧ ∀ k, k < j → ¬ Trn σ n a k) ∨ ((∃ k, k < j ∧ Trn σ n a k ∧ σ 198 k = v) ∧ 0 ≤ v ∧ v < 96 ∧ ∀ k, k < j → Trn σ n a k → v ≤ σ 198 k)
theorem TfP_skip {σ : St} {n : Int} {a j : Nat} {v : Int} (h : TfP σ n a j v) (hn : ¬ Trn σ n a j) : TfP σ n a (j + 1) v := by
  rcases h with ⟨h1, h2⟩ | ⟨⟨k, h1, h2, h3⟩, h4, h5, h6⟩
  · refine Or.inl ⟨h1, fun k hk => ?_⟩
    by_cases hkj : k = j
    · subst hkj; exact hn
    · exact h2 k (by omega)
  · refine Or.inr ⟨⟨k, by omega, h2, h3⟩, h4, h5, fun k hk q => ?_⟩
    by_cases hkj : k = j
    · subst hkj; exact absurd q hn
    · exact h6 k (by omega) q
theorem TfP_keep {σ : St} {n : Int} {a j : Nat} {v : Int} (h : TfP σ n a j v) (hv : v ≠ -1) (hle : v ≤ σ 198 j) : TfP σ n a (j + 1) v := by
  rcases h with ⟨h1, h2⟩ | ⟨⟨k, h1, h2, h3⟩, h4, h5, h6⟩
  · exact absurd h1 hv
  · refine Or.inr ⟨⟨k, by omega, h2, h3⟩, h4, h5, fun k hk q => ?_⟩
    by_cases hkj : k = j
    · subst hkj; exact hle
    · exact h6 k (by omega) q
theorem TfP_new {σ : St} {n : Int} {a j : Nat} {v : Int} (h : TfP σ n a j v) (ht : Trn σ n a j) (h0 : 0 ≤ σ 198 j ∧ σ 198 j < 96) (hlt : v = -1 ∨ σ 198 j < v) : TfP σ n a (j + 1) (σ 198 j) := by
  refine Or.inr ⟨⟨j, by omega, ht, rfl⟩, h0.1, h0.2, fun k hk q => ?_⟩
  by_cases hkj : k = j
  · subst hkj; exact Int.le_refl _
  · rcases h with ⟨h1, h2⟩ | ⟨-, h4, h5, h6⟩
    · exact absurd q (h2 k (by omega))
    · have := h6 k (by omega) q
      omega
theorem TfP_uniq {σ : St} {n : Int} {a j : Nat} {v w : Int} (h : TfP σ n a j v) (g : TfP σ n a j w) : v = w := by
  rcases h with ⟨h1, h2⟩ | ⟨⟨k, h1, h2, h3⟩, h4, h5, h6⟩
  · rcases g with ⟨g1, g2⟩ | ⟨⟨k, g1, g2, g3⟩, g4, g5, g6⟩
    · omega
    · exact absurd g2 (h2 k g1)
  · rcases g with ⟨g1, g2⟩ | ⟨⟨k', g1, g2, g3⟩, g4, g5, g6⟩
    · exact absurd h2 (g2 k h1)
    · have := h6 k' g1 g2
      have := g6 k h1 h2
      omega
theorem turnedFrom_sp {σ τ : St} {n : Int} {a : Nat} (hB : iBook σ) (hn : 0 ≤ n ∧ n ≤ σ 30 5) (hK : KN σ τ n) : Hp (m_X1_turnedFrom a τ) (fun v => TfP σ n a n.toNat v) := by
  have b0 := hB.1
  rw [m_X1_turnedFrom, Hp_bind]
  simp only [Hp_some]
  refine Hp_up (fun j (z : Int × Int) => z.2 = (j : Int) ∧ TfP σ n a j z.1) 0 n.toNat (by omega) (by omega) ⟨rfl, Or.inl ⟨rfl, fun k h => by omega⟩⟩ ?_ ?_
  · rintro j ⟨v, x⟩ - hj ⟨e1, e2⟩
    simp only at e1 e2
    subst e1
    obtain ⟨b, hb1, hb2, hb3⟩ := KN_holds hB hn hK (i := j) (by omega) 2
    obtain ⟨c1, c2, c3, -, -, -, c4⟩ := book_at hB (i := j) (by omega)
    have f32 : τ 32 j = σ 32 j := hK.1 32 j rfl
    have f34 : τ 34 j = σ 34 j := hK.1 34 j rfl
    simp only [m_X1_turnedFrom_L4]
    rw [if_neg (by have := hK.2.1; omega), hb1, bnd_s]
    by_cases hz : b = 0
    · rw [if_pos hz, Hp_some, Lq_inl, nx1 (by omega)]
      exact ⟨rfl, TfP_skip e2 (fun q => by have := hb3.mpr ⟨q.2.1, q.2.2.2⟩; omega)⟩
    · have hb4 := hb3.mp (by omega)
      have c5 := c4 (by omega)
      rw [if_neg hz, rd_ok (by omega) (by omega), bnd_s, Int.toNat_natCast, f32]
      by_cases hw : σ 32 j = a
      · have hT : Trn σ n a j := ⟨by omega, hb4.1, by omega, hb4.2⟩
        rw [if_pos hw]
        have hJ : (v = -1 ∨ σ 198 j < v) → Hp (m_X1_turnedFrom_J46 τ j) (Lq (fun v => TfP σ n a n.toNat v) (fun (z : Int × Int) => z.2 = ((j + 1 : Nat) : Int) ∧ TfP σ n a (j + 1) z.1)) := by
          intro h
          rw [m_X1_turnedFrom_J46, rd_ok (by omega) (by omega), bnd_s, Hp_some, Lq_inl, nx1 (by omega), Int.toNat_natCast, f34]
          refine ⟨rfl, ?_⟩
          simp only
          rw [← c5.1]
          exact TfP_new e2 hT (by omega) h
        by_cases h1 : v = -1
        · rw [if_pos h1]; exact hJ (Or.inl h1)
        · rw [if_neg h1, rd_ok (by omega) (by omega), bnd_s, Int.toNat_natCast, f34]
          by_cases h2 : v ≤ σ 34 j
          · rw [if_pos h2, Hp_some, Lq_inl, nx1 (by omega)]
            exact ⟨rfl, TfP_keep e2 h1 (by omega)⟩
          · rw [if_neg h2]; exact hJ (Or.inr (by omega))
      · rw [if_neg hw, Hp_some, Lq_inl, nx1 (by omega)]
        exact ⟨rfl, TfP_skip e2 (fun q => hw (by have := q.2.2.1; omega))⟩
  · rintro ⟨v, x⟩ ⟨e1, e2⟩
    simp only at e1 e2
    subst e1
    simp only [m_X1_turnedFrom_L4]
    rw [if_pos (by have := hK.2.1; omega), Hp_some, Lq_inr]
    exact e2
theorem m_turned_sp {σ τ : St} {n : Int} {a : Nat} (hB : iBook σ) (hn : 0 ≤ n ∧ n ≤ σ 30 5) (h5 : τ 195 = σ 195) (h6 : τ 196 = σ 196) (h8 : τ 198 = σ 198) : Hp (lp (fun z => m_X12_touched_L28 n τ a z.1 z.2) (-1, 0)) (fun v => TfP σ n a n.toNat v) := by
  have b0 := hB.1
  refine Hp_up (fun j (z : Int × Int) => z.2 = (j : Int) ∧ TfP σ n a j z.1) 0 n.toNat (by omega) (by omega) ⟨rfl, Or.inl ⟨rfl, fun k h => by omega⟩⟩ ?_ ?_
  · rintro j ⟨v, x⟩ - hj ⟨e1, e2⟩
    simp only at e1 e2
    subst e1
    obtain ⟨c1, c2, c3, -, -, -, c4⟩ := book_at hB (i := j) (by omega)
    simp only [m_X12_touched_L28]
    rw [if_neg (by omega), rd_ok (by omega) (by omega), bnd_s, Int.toNat_natCast, h5]
    by_cases h2 : σ 195 j = 2
    · have c5 := c4 (by omega)
      rw [if_pos h2, rd_ok (by omega) (by omega), bnd_s, Int.toNat_natCast, h6]
      by_cases hw : σ 196 j = a
      · rw [if_pos hw]
        obtain ⟨b, hb1, hb2, hb3⟩ := m_isStruck_sp (σ := τ) (f := j) (n := n) (by omega) (by omega)
        rw [strk_cg h5 h6] at hb3
        rw [hb1, bnd_s]
        by_cases hz : b = 0
        · have hns : ¬ Strk σ n j := fun q => by have := hb3.mpr q; omega
          have hT : Trn σ n a j := ⟨by omega, h2, hw, hns⟩
          rw [if_pos hz]
          have hJ : (v = -1 ∨ σ 198 j < v) → Hp (m_X12_touched_J82 τ j) (Lq (fun v => TfP σ n a n.toNat v) (fun (z : Int × Int) => z.2 = ((j + 1 : Nat) : Int) ∧ TfP σ n a (j + 1) z.1)) := by
            intro h
            rw [m_X12_touched_J82, rd_ok (by omega) (by omega), bnd_s, Hp_some, Lq_inl, nx1 (by omega), Int.toNat_natCast, h8]
            exact ⟨rfl, TfP_new e2 hT (by omega) h⟩
          by_cases h1 : v = -1
          · rw [if_pos h1]; exact hJ (Or.inl h1)
          · rw [if_neg h1, rd_ok (by omega) (by omega), bnd_s, Int.toNat_natCast, h8]
            by_cases h3 : v ≤ σ 198 j
            · rw [if_pos h3, Hp_some, Lq_inl, nx1 (by omega)]
              exact ⟨rfl, TfP_keep e2 h1 h3⟩
            · rw [if_neg h3]; exact hJ (Or.inr (by omega))
        · rw [if_neg hz, Hp_some, Lq_inl, nx1 (by omega)]
          exact ⟨rfl, TfP_skip e2 (fun q => q.2.2.2 (hb3.mp (by omega)))⟩
      · rw [if_neg hw, Hp_some, Lq_inl, nx1 (by omega)]
        exact ⟨rfl, TfP_skip e2 (fun q => hw q.2.2.1)⟩
    · rw [if_neg h2, Hp_some, Lq_inl, nx1 (by omega)]
      exact ⟨rfl, TfP_skip e2 (fun q => h2 q.2.1)⟩
  · rintro ⟨v, x⟩ ⟨e1, e2⟩
    simp only at e1 e2
    subst e1
    simp only [m_X12_touched_L28]
    rw [if_pos (by omega), Hp_some, Lq_inr]
    exact e2
/-- two agents can be at one spot, from tick t on -/
def Shr (σ : St) (n : Int) (a b t : Nat) : Prop := ∃ d s, t ≤ d ∧ d < 96 ∧ Can σ n a d s ∧ Can σ n b d s
theorem share_sp {σ τ : St} {n : Int} {a b t : Nat} (hT : iTown σ) (ha : a < 8) (hb : b < 8) (ht : t < 96) (hRa : RowC σ n a τ) (hRb : RowC σ n b τ) : ∃ v, m_X6_canShare a b t τ = some v ∧ Bb v (Shr σ n a b t) := by
  have t1 := hT.1
  have h : Hp (m_X6_canShare a b t τ) (fun v => Bb v (Shr σ n a b t)) := by
    rw [m_X6_canShare, if_neg (by omega), if_neg (by omega), if_neg (by omega), if_pos (by omega), show maxI (t : Int) 0 = (t : Int) by unfold maxI; split <;> omega]
    simp only [vl]
    rw [bnd_s, Hp_bind]
    refine Hp_up (fun j (x : Int) => x = (j : Int) ∧ ∀ d s, t ≤ d → d < j → ¬ (Can σ n a d s ∧ Can σ n b d s)) t 96 (by omega) (by omega) ⟨rfl, fun d s h1 h2 => by omega⟩ ?_ ?_
    · rintro d x hd1 hd2 ⟨e1, e2⟩
      subst e1
      have hbs := Bs_and (hRa d hd2).2 (hRb d hd2).2
      have hz := Bs_zero_iff hbs (fun s hs => by have := can_s hs.1; omega)
      simp only [m_X6_canShare_L29]
      rw [if_neg (by omega), rr_ok (by omega) (by omega), bnd_s, rd_ok (by omega) (by omega), bnd_s, rr_ok (by omega) (by omega), bnd_s, rd_ok (by omega) (by omega), bnd_s]
      simp only [Int.toNat_natCast, rf_can ha, rf_can hb]
      by_cases h0 : andI (τ (97 + a) d) (τ (97 + b) d) = 0
      · rw [if_pos h0, Hp_some, Lq_inl, nx1 (by omega)]
        refine ⟨rfl, ?_⟩
        intro d' s h1 h2
        by_cases hdd : d' = d
        · subst hdd; exact hz.mp h0 s
        · exact e2 d' s h1 (by omega)
      · rw [if_neg h0, Hp_some, Lq_inr]
        simp only [Hp_some]
        obtain ⟨s, hs⟩ := Classical.not_forall_not.mp (fun q => h0 (hz.mpr q))
        exact Bb_1 ⟨d, s, hd1, hd2, hs⟩
    · rintro x ⟨e1, e2⟩
      subst e1
      simp only [m_X6_canShare_L29]
      rw [if_pos (by omega), Hp_some, Lq_inr]
      simp only [Hp_some]
      exact Bb_0 (fun ⟨d, s, q1, q2, q3⟩ => e2 d s q1 q2 q3)
  obtain ⟨v, h1, h2⟩ := h
  exact ⟨v, h1, h2⟩
theorem m_share {σ τ : St} {n : Int} {A a b t : Nat} {acc : Int} {P : Nat → Prop} (hA : A ≤ 8) (ha : a < A) (hb : b < A) (ht : t < 96) (hG : ∀ a, a < A → GoA σ τ n a) (hT : iTown σ) (hacc : Bs acc P) :
    Hp (lp (fun z => m_X12_touched_L129 b a τ z.1 z.2) (acc, wr (10 * (t : Int)))) (fun x => Bs x (fun i => P i ∨ (i = b ∧ b ≠ a ∧ Shr σ n a b t))) := by
  have t1 := hT.1
  rw [wr_id' (x := 10 * (t : Int)) (by omega) (by omega)]
  refine Hp_up (fun j (z : Int × Int) => z.2 = (j : Int) ∧ Bs z.1 (fun i => P i ∨ (i = b ∧ b ≠ a ∧ ∃ d s, t ≤ d ∧ 10 * d + s < j ∧ s < 10 ∧ Can σ n a d s ∧ Can σ n b d s))) (10 * t) 960 (by omega) (by omega) ⟨by simp only; omega, Bs_cg hacc (fun i => ⟨Or.inl, fun q => q.elim id (fun ⟨_, _, d, s, _, _, _⟩ => by omega)⟩)⟩ ?_ ?_
  · rintro j ⟨y, x⟩ hj1 hj2 ⟨e1, e2⟩
    simp only at e1 e2
    subst e1
    obtain ⟨d, s, hds, hs⟩ : ∃ d s, j = 10 * d + s ∧ s < 10 := ⟨j / 10, j % 10, by omega, by omega⟩
    have hd : d < 96 := by omega
    have g1 := (hG a ha).2 d s hd hs
    have g2 := (hG b hb).2 d s hd hs
    have hno : ¬ (b ≠ a ∧ Can σ n a d s ∧ Can σ n b d s) → Bs y (fun i => P i ∨ (i = b ∧ b ≠ a ∧ ∃ d s, t ≤ d ∧ 10 * d + s < j + 1 ∧ s < 10 ∧ Can σ n a d s ∧ Can σ n b d s)) := by
      intro hn
      refine Bs_cg e2 ?_
      intro i
      constructor
      · rintro (q | ⟨q1, q2, d', s', q3, q4, q5⟩)
        · exact Or.inl q
        · exact Or.inr ⟨q1, q2, d', s', q3, by omega, q5⟩
      · rintro (q | ⟨q1, q2, d', s', q3, q4, q5, q6⟩)
        · exact Or.inl q
        · by_cases hq : 10 * d' + s' = j
          · have r1 : d' = d := by omega
            have r2 : s' = s := by omega
            subst r1; subst r2
            exact absurd ⟨q2, q6⟩ hn
          · exact Or.inr ⟨q1, q2, d', s', q3, by omega, q5, q6⟩
    simp only [m_X12_touched_L129]
    rw [if_neg (by omega)]
    by_cases hba : (b : Int) = (a : Int)
    · rw [if_pos hba, Hp_some, Lq_inl, nx1 (by omega)]
      exact ⟨rfl, hno (fun q => q.1 (by omega))⟩
    · rw [if_neg hba, ix960 (by omega) (by omega), rd_ok (by omega) (by omega), bnd_s, Int.toNat_natCast, show 960 * a + j = 960 * a + 10 * d + s by omega]
      by_cases hz1 : τ 221 (960 * a + 10 * d + s) = 0
      · rw [if_pos hz1, Hp_some, Lq_inl, nx1 (by omega)]
        exact ⟨rfl, hno (fun q => (Bb_ne g1).mp hz1 q.2.1)⟩
      · rw [if_neg hz1, ix960 (by omega) (by omega), rd_ok (by omega) (by omega), bnd_s, Int.toNat_natCast, show 960 * b + j = 960 * b + 10 * d + s by omega]
        by_cases hz2 : τ 221 (960 * b + 10 * d + s) = 0
        · rw [if_pos hz2, Hp_some, Lq_inl, nx1 (by omega)]
          exact ⟨rfl, hno (fun q => (Bb_ne g2).mp hz2 q.2.2)⟩
        · rw [if_neg hz2]
          simp only [vl]
          rw [bnd_s, Hp_some, Lq_inl, nx1 (by omega)]
          have c1 := g1.2.mp (by have := g1.1; omega)
          have c2 := g2.2.mp (by have := g2.1; omega)
          refine ⟨rfl, Bs_cg (Bs_or e2 (Bs_bit (i := b) (by omega))) ?_⟩
          intro i
          constructor
          · rintro ((q | ⟨q1, q2, d', s', q3, q4, q5⟩) | q)
            · exact Or.inl q
            · exact Or.inr ⟨q1, q2, d', s', q3, by omega, q5⟩
            · exact Or.inr ⟨q, by omega, d, s, by omega, by omega, hs, c1, c2⟩
          · rintro (q | ⟨q1, -⟩)
            · exact Or.inl (Or.inl q)
            · exact Or.inr q1
  · rintro ⟨y, x⟩ ⟨e1, e2⟩
    simp only at e1 e2
    subst e1
    simp only [m_X12_touched_L129]
    rw [if_pos (by omega), Hp_some, Lq_inr]
    refine Bs_cg e2 ?_
    intro i
    constructor
    · rintro (q | ⟨q1, q2, d, s, q3, q4, q5, q6⟩)
      · exact Or.inl q
      · exact Or.inr ⟨q1, q2, d, s, q3, by omega, q6⟩
    · rintro (q | ⟨q1, q2, d, s, q3, q4, q5, q6⟩)
      · exact Or.inl q
      · have := can_s q5
        exact Or.inr ⟨q1, q2, d, s, q3, by omega, by omega, q5, q6⟩
theorem c_touched : PS_touched Inv := by
  intro σ a1 a5 hok hI h1 h5
  apply ps_of
  have hI2 := hI
  obtain ⟨k1, k2, k3, k4, k5, k6, k7, k8, k9, k10, k11⟩ := hI2
  have hq := inv_thr (x := 0) hI
  have a0 := k6.1
  have b0 := k7.1
  have hbad : ¬ ((0 ≤ a1 ∧ a1 < σ 0 6) ∧ (0 ≤ a5 ∧ a5 ≤ σ 30 5)) → Hp (m_X12_touched a1 a5 σ) (fun q => q.1 = -1 ∧ Inv q.2) := by
    intro hc
    simp only [m_X12_touched, Hp_bind, Hp_pt, m_isAgent_eq, m_isKnown_eq, Hp_some]
    simp (disch := decide) only [up_eq, up_cell, up_slot, Int.toNat_natCast, true_and, and_true, eq_self]
    rw [a0.1, b0.1]
    by_cases c1 : 0 ≤ a1 ∧ a1 < σ 0 6
    · simp only [if_pos c1, Int.reduceEq, if_false]
      rw [bnd_s, if_neg (show ¬ (0 ≤ a5 ∧ a5 ≤ σ 30 5) by omega), if_pos rfl, Hp_some]
      exact ⟨rfl, hq⟩
    · simp only [if_neg c1, if_true, Hp_some]; exact ⟨by trivial, hq⟩
  rw [m_X11_touched, isAgent_eq (by omega), bnd_s]
  by_cases c1 : 0 ≤ a1 ∧ a1 < σ 0 6
  · simp only [if_pos c1, Int.reduceEq, if_false]
    rw [isKnow_eq, bnd_s]
    by_cases c5 : 0 ≤ a5 ∧ a5 ≤ σ 30 5
    · simp only [if_pos c5, Int.reduceEq, if_false]
      obtain ⟨a, rfl⟩ := Int.eq_ofNat_of_zero_le c1.1
      obtain ⟨A, hA⟩ := Int.eq_ofNat_of_zero_le a0.2.1
      have hA8 : A ≤ 8 := by omega
      have haA : a < A := by omega
      rw [Hp_bind]
      refine Hp_mono (rows_sp k7 k1 c5 a0.2) ?_
      rintro σ1 ⟨hK1, hR1⟩
      have e06 : σ1 0 6 = (A : Int) := (hK1.1 0 6 rfl).trans hA
      have hI3 := inv_thr (x := 0) (inv_KN hI hK1)
      have g06 : σ1 170 35 = σ 0 6 := (hK1.1 170 35 rfl).trans a0.1
      have g41 : σ1 170 41 = σ 30 5 := (hK1.1 170 41 rfl).trans b0.1
      have v5 : up σ1 170 0 0 195 = σ 195 := by rw [up_ne 195 (by decide)]; exact funext fun j => hK1.1 195 j rfl
      have v6 : up σ1 170 0 0 196 = σ 196 := by rw [up_ne 196 (by decide)]; exact funext fun j => hK1.1 196 j rfl
      have v8 : up σ1 170 0 0 198 = σ 198 := by rw [up_ne 198 (by decide)]; exact funext fun j => hK1.1 198 j rfl
      obtain ⟨w, o1, w1⟩ := m_turned_sp (σ := σ) (τ := up σ1 170 0 0) (n := a5) (a := a) k7 c5 v5 v6 v8
      have hm : ∀ Q : Int × St → Prop, (w = -1 → Q (-1, up σ1 170 0 0)) → (∀ t : Nat, w = t → t < 96 → ∀ τ x, Inv τ → Bs x (fun i => i < A ∧ i ≠ a ∧ Shr σ a5 a i t) → Q (x, τ)) → Hp (m_X12_touched a a5 σ1) Q := by
        intro Q hQ1 hQ2
        simp only [m_X12_touched, Hp_bind, Hp_pt, m_isAgent_eq, m_isKnown_eq, Hp_some]
        simp (disch := decide) only [up_eq, up_cell, up_slot, Int.toNat_natCast, true_and, and_true, eq_self]
        rw [g06, g41]
        simp only [if_pos c1, Int.reduceEq, if_false]
        rw [bnd_s]
        simp only [if_pos c5, Int.reduceEq, if_false]
        rw [o1, bnd_s]
        by_cases hw : w = -1
        · rw [if_pos hw, Hp_some]; exact hQ1 hw
        · rw [if_neg hw, Hp_bind]
          obtain ⟨t, ht, ht96⟩ : ∃ t : Nat, w = t ∧ t < 96 := by
            rcases w1 with ⟨q, -⟩ | ⟨-, q1, q2, -⟩
            · exact absurd q hw
            · exact ⟨w.toNat, by omega, by omega⟩
          refine Hp_mono (goes_c hI c5 hK1) ?_
          rintro τ ⟨hIt, hMC⟩
          have hM := hMC (σ, a5, A, (fun _ => False), False, 0) rfl rfl (by simp only; omega)
          obtain ⟨hL, h35, hG⟩ := hM
          simp only at hL h35 hG
          rw [Hp_bind]
          simp only [Hp_some]
          refine Hp_up (fun j (z : Int × Int) => z.2 = (j : Int) ∧ Bs z.1 (fun i => i < j ∧ i ≠ a ∧ Shr σ a5 a i t)) 0 A (by omega) (by omega) ⟨rfl, Bs_cg Bs_zero (fun s => ⟨fun q => absurd q id, fun q => by omega⟩)⟩ ?_ ?_
          · rintro j ⟨y, x⟩ - hj ⟨e1, e2⟩
            simp only at e1 e2
            subst e1
            simp only [m_X12_touched_L114, vl]
            rw [if_neg (by omega), bnd_s, Hp_bind, ht]
            refine Hp_mono (m_share (σ := σ) (n := a5) (b := j) hA8 haA hj ht96 hG k1 e2) ?_
            intro x hx
            rw [Hp_some, Lq_inl, nx1 (by omega)]
            refine ⟨rfl, Bs_cg hx ?_⟩
            intro i
            constructor
            · rintro (⟨q1, q2⟩ | ⟨q1, q2, q3⟩)
              · exact ⟨by omega, q2⟩
              · subst q1; exact ⟨by omega, q2, q3⟩
            · rintro ⟨q1, q2, q3⟩
              by_cases hij : i = j
              · subst hij; exact Or.inr ⟨rfl, q2, q3⟩
              · exact Or.inl ⟨by omega, q2, q3⟩
          · rintro ⟨y, x⟩ ⟨e1, e2⟩
            simp only at e1 e2
            subst e1
            simp only [m_X12_touched_L114]
            rw [if_pos (by omega), Hp_some, Lq_inr]
            exact hQ2 t ht ht96 τ y hIt e2
      rw [Hp_bind]
      refine Hp_mono (turnedFrom_sp k7 c5 hK1) ?_
      intro v hv
      have hvw := TfP_uniq hv w1
      subst hvw
      by_cases hv1 : v = -1
      · rw [if_pos hv1, Hp_some]
        exact hm _ (fun _ => ⟨rfl, hI3⟩) (fun t h => by omega)
      · obtain ⟨t, ht, ht96⟩ : ∃ t : Nat, v = t ∧ t < 96 := by
          rcases hv with ⟨q, -⟩ | ⟨-, q1, q2, -⟩
          · exact absurd q hv1
          · exact ⟨v.toNat, by omega, by omega⟩
        rw [if_neg hv1, Hp_bind]
        refine Hp_up (fun j (z : Int × Int) => z.2 = (j : Int) ∧ Bs z.1 (fun i => i < j ∧ i ≠ a ∧ Shr σ a5 a i t)) 0 A (by omega) (by omega) ⟨rfl, Bs_cg Bs_zero (fun s => ⟨fun q => absurd q id, fun q => by omega⟩)⟩ ?_ ?_
        · rintro j ⟨y, x⟩ - hj ⟨e1, e2⟩
          simp only at e1 e2
          subst e1
          have hskip : ¬ (j ≠ a ∧ Shr σ a5 a j t) → Bs y (fun i => i < j + 1 ∧ i ≠ a ∧ Shr σ a5 a i t) := by
            intro hn
            refine Bs_cg e2 ?_
            intro i
            constructor
            · rintro ⟨q1, q2⟩; exact ⟨by omega, q2⟩
            · rintro ⟨q1, q2⟩
              by_cases hij : i = j
              · subst hij; exact absurd q2 hn
              · exact ⟨by omega, q2⟩
          simp only [m_X11_touched_L45]
          rw [if_neg (by omega)]
          by_cases hja : (j : Int) = (a : Int)
          · rw [if_pos hja, Hp_some, Lq_inl, nx1 (by omega)]
            exact ⟨rfl, hskip (fun q => q.1 (by omega))⟩
          · rw [if_neg hja]
            obtain ⟨b, b1, b2⟩ := share_sp (σ := σ) (τ := σ1) (n := a5) (a := a) (b := j) (t := t) k1 (by omega) (by omega) ht96 (hR1 a (by omega)) (hR1 j (by omega))
            rw [ht, b1, bnd_s]
            by_cases hz : b = 0
            · rw [if_pos hz, Hp_some, Lq_inl, nx1 (by omega)]
              exact ⟨rfl, hskip (fun q => (Bb_ne b2).mp hz q.2)⟩
            · rw [if_neg hz]
              simp only [vl]
              rw [bnd_s, Hp_some, Lq_inl, nx1 (by omega)]
              have hsh := b2.2.mp (by have := b2.1; omega)
              refine ⟨rfl, Bs_cg (Bs_or e2 (Bs_bit (i := j) (by omega))) ?_⟩
              intro i
              constructor
              · rintro (⟨q1, q2⟩ | q)
                · exact ⟨by omega, q2⟩
                · subst q; exact ⟨by omega, by omega, hsh⟩
              · rintro ⟨q1, q2⟩
                by_cases hij : i = j
                · exact Or.inr hij
                · exact Or.inl ⟨by omega, q2⟩
        · rintro ⟨y, x⟩ ⟨e1, e2⟩
          simp only at e1 e2
          subst e1
          simp only [m_X11_touched_L45]
          rw [if_pos (by omega), Hp_some, Lq_inr, Hp_some]
          refine hm _ (fun h => absurd h hv1) ?_
          intro t' ht' _ τ x hIt hx
          have : t' = t := by omega
          subst this
          exact ⟨Bs_ext hx e2 (fun _ => Iff.rfl), hIt⟩
    · simp only [if_neg c5, if_true, Hp_some]; exact hbad (by omega)
  · simp only [if_neg c1, if_true, Hp_some]; exact hbad (by omega)
