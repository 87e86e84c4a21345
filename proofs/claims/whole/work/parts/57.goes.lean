/-! the model's reckoning of where agents can be -/
def Bb (x : Int) (P : Prop) : Prop := (x = 1 ∨ x = 0) ∧ (x = 1 ↔ P)
theorem Bb_cg {x : Int} {P Q : Prop} (h : Bb x P) (hq : P ↔ Q) : Bb x Q := ⟨h.1, h.2.trans hq⟩
theorem Bb_1 {P : Prop} (h : P) : Bb 1 P := ⟨Or.inl rfl, fun _ => h, fun _ => rfl⟩
theorem Bb_0 {P : Prop} (h : ¬ P) : Bb 0 P := ⟨Or.inr rfl, fun q => absurd q (by decide), fun q => absurd q h⟩
theorem Bb_ne {x : Int} {P : Prop} (h : Bb x P) : (x = 0 ↔ ¬ P) := by
  rcases h with ⟨q | q, h2⟩
  · rw [q]; exact ⟨fun r => absurd r (by decide), fun r => absurd (h2.mp q) r⟩
  · exact ⟨fun _ r => by have := h2.mpr r; omega, fun _ => q⟩
theorem ix10 {d s : Nat} (hd : d < 200) (hs : s < 200) : wr (wr (10 * (d : Int)) + (s : Int)) = ((10 * d + s : Nat) : Int) := by
  rw [wr_id' (x := 10 * (d : Int)) (by omega) (by omega), wr_id' (by omega) (by omega)]; omega
theorem ix96 {d s : Nat} (hd : d < 200) (hs : s < 200) : wr (wr (96 * (d : Int)) + (s : Int)) = ((96 * d + s : Nat) : Int) := by
  rw [wr_id' (x := 96 * (d : Int)) (by omega) (by omega), wr_id' (by omega) (by omega)]; omega
theorem ix960 {d s : Nat} (hd : d < 200) (hs : s < 1000) : wr (wr (960 * (d : Int)) + (s : Int)) = ((960 * d + s : Nat) : Int) := by
  rw [wr_id' (x := 960 * (d : Int)) (by omega) (by omega), wr_id' (by omega) (by omega)]; omega
theorem nx1 {j : Nat} (h : j < 100000) : wr ((j : Int) + 1) = ((j + 1 : Nat) : Int) := by rw [wr_id' (by omega) (by omega)]; omega
theorem q_g (j : Int) (τ : St) : m_X12_posts_L2 j τ = if (960 : Int) ≤ j then some (.inr τ) else (wt τ 200 960 j 0).bind fun τ' => some (.inl (wr (j + 1), τ')) := by rw [m_X12_posts_L2]
/-- the posts that the model marks -/
def PostP (σ τ : St) (n : Int) : Prop := ∀ s t : Nat, s < 10 → t < 96 → Bb (τ 200 (96 * s + t)) (Wtch σ n s t)
theorem posts_sp {σ : St} {n : Int} (hB : iBook σ) (hT : iTown σ) (hn : 0 ≤ n ∧ n ≤ σ 30 5) : Hp (m_X12_posts n σ) (fun τ => Wr ([(200, 200)], []) σ τ ∧ PostP σ τ n) := by
  have b0 := hB.1
  have t1 := hT.1
  obtain ⟨τ1, o1, w1, z1⟩ := fill_sp (f := fun a => m_X12_posts_L2 a.1 a.2) (σ := σ) (c := 200) (N := 960) (NI := 960) (v := 0) (by omega) (by omega) q_g
  rw [m_X12_posts, o1, bnd_s, Hp_bind]
  simp only [Hp_some]
  refine Hp_up (fun j (z : Int × St) => z.1 = (j : Int) ∧ Wr ([(200, 200)], []) σ z.2 ∧ ∀ s t : Nat, s < 10 → t < 96 → Bb (z.2 200 (96 * s + t)) (∃ k : Nat, k < j ∧ σ 195 k = 0 ∧ ¬ Strk σ n k ∧ σ 197 k = s ∧ σ 198 k ≤ t ∧ (t : Int) < σ 199 k)) 0 n.toNat (by omega) (by omega) ⟨rfl, w1, ?_⟩ ?_ ?_
  · intro s t hs ht
    simp only
    rw [z1 _ (by omega)]
    exact Bb_0 (fun ⟨k, hk, _⟩ => by omega)
  · rintro j ⟨x, τ⟩ - hj ⟨e1, e2, e3⟩
    simp only at e1 e2 e3
    subst e1
    have hnx := nx1 (j := j) (by omega)
    obtain ⟨c1, c2, c3, -, c4, -⟩ := book_at hB (i := j) (by omega)
    have f195 : τ 195 j = σ 195 j := e2 195 j rfl
    have hskip : ¬ (σ 195 j = 0 ∧ ¬ Strk σ n j) → Lq (fun τ => Wr ([(200, 200)], []) σ τ ∧ PostP σ τ n) (fun z => z.1 = ((j + 1 : Nat) : Int) ∧ Wr ([(200, 200)], []) σ z.2 ∧ ∀ s t : Nat, s < 10 → t < 96 → Bb (z.2 200 (96 * s + t)) (∃ k : Nat, k < j + 1 ∧ σ 195 k = 0 ∧ ¬ Strk σ n k ∧ σ 197 k = s ∧ σ 198 k ≤ t ∧ (t : Int) < σ 199 k)) (Sum.inl (wr ((j : Int) + 1), τ)) := by
      intro hno
      rw [Lq_inl, hnx]
      refine ⟨rfl, e2, ?_⟩
      intro s t hs ht
      refine Bb_cg (e3 s t hs ht) ?_
      constructor
      · rintro ⟨k, hk, hk2⟩; exact ⟨k, by omega, hk2⟩
      · rintro ⟨k, hk, hk2, hk3, hk4⟩
        by_cases hkj : k = j
        · subst hkj; exact absurd ⟨hk2, hk3⟩ hno
        · exact ⟨k, by omega, hk2, hk3, hk4⟩
    simp only [m_X12_posts_L24]
    rw [if_neg (by omega), rd_ok (by omega) (by omega), bnd_s, Int.toNat_natCast, f195]
    by_cases h0 : σ 195 j = 0
    · rw [if_pos h0]
      obtain ⟨b, hb1, hb2, hb3⟩ := m_isStruck_sp (σ := τ) (f := j) (n := n) (by omega) (by omega)
      rw [strk_cg (funext fun i => e2 195 i rfl) (funext fun i => e2 196 i rfl)] at hb3
      rw [hb1, bnd_s]
      by_cases hz : b = 0
      · rw [if_pos hz]
        have hns : ¬ Strk σ n j := fun q => by have := hb3.mpr q; omega
        have c5 := c4 (by omega)
        obtain ⟨sp, hsp⟩ := Int.eq_ofNat_of_zero_le c5.1.2.1
        obtain ⟨fr, hfr⟩ := Int.eq_ofNat_of_zero_le c5.2.2.2.1
        obtain ⟨tt, htt⟩ := Int.eq_ofNat_of_zero_le (show 0 ≤ σ 35 j by omega)
        have g197 : σ 197 j = sp := by omega
        have g198 : σ 198 j = fr := by omega
        have g199 : σ 199 j = tt := by omega
        rw [rd_ok (by omega) (by omega), bnd_s, Int.toNat_natCast, e2 198 j rfl, g198, Hp_bind]
        refine Hp_up (fun i (z : Int × St) => z.1 = (i : Int) ∧ Wr ([(200, 200)], []) τ z.2 ∧ ∀ s t : Nat, s < 10 → t < 96 → z.2 200 (96 * s + t) = if s = sp ∧ fr ≤ t ∧ t < i then 1 else τ 200 (96 * s + t)) fr tt (by omega) (by omega) ⟨rfl, Wr_rf, fun s t hs ht => by simp only; rw [if_neg (by omega)]⟩ ?_ ?_
        · rintro i ⟨x, ρ⟩ hi1 hi2 ⟨g1, g2, g3⟩
          simp only at g1 g2 g3
          subst g1
          have q199 : ρ 199 j = tt := (g2 199 j rfl).trans ((e2 199 j rfl).trans g199)
          have q197 : ρ 197 j = sp := (g2 197 j rfl).trans ((e2 197 j rfl).trans g197)
          simp only [m_X12_posts_L54]
          rw [rd_ok (by omega) (by omega), bnd_s, Int.toNat_natCast, q199, if_neg (by omega), rd_ok (by omega) (by omega), bnd_s, Int.toNat_natCast, q197, ix96 (by omega) (by omega), Hp_bind, Hp_wt]
          refine ⟨by omega, ?_⟩
          rw [Int.toNat_natCast, Hp_some, Lq_inl, nx1 (by omega)]
          refine ⟨rfl, Wr_up g2 rfl, ?_⟩
          intro s t hs ht
          simp only
          by_cases hst : 96 * s + t = 96 * sp + i
          · rw [hst, up_eq, if_pos (by omega)]
          · rw [up_slot hst, g3 s t hs ht]
            by_cases hc : s = sp ∧ fr ≤ t ∧ t < i
            · rw [if_pos hc, if_pos (by omega)]
            · rw [if_neg hc, if_neg (by omega)]
        · rintro ⟨x, ρ⟩ ⟨g1, g2, g3⟩
          simp only at g1 g2 g3
          subst g1
          have q199 : ρ 199 j = tt := (g2 199 j rfl).trans ((e2 199 j rfl).trans g199)
          simp only [m_X12_posts_L54]
          rw [rd_ok (by omega) (by omega), bnd_s, Int.toNat_natCast, q199, if_pos (by omega), Hp_some, Lq_inr, Hp_some, Lq_inl, hnx]
          refine ⟨rfl, Wr_tr e2 g2, ?_⟩
          intro s t hs ht
          simp only
          rw [g3 s t hs ht]
          by_cases hc : s = sp ∧ fr ≤ t ∧ t < tt
          · rw [if_pos hc]
            exact Bb_1 ⟨j, by omega, h0, hns, by omega, by omega, by omega⟩
          · rw [if_neg hc]
            refine Bb_cg (e3 s t hs ht) ?_
            constructor
            · rintro ⟨k, hk, hk2⟩; exact ⟨k, by omega, hk2⟩
            · rintro ⟨k, hk, hk2, hk3, hk4, hk5, hk6⟩
              by_cases hkj : k = j
              · subst hkj; omega
              · exact ⟨k, by omega, hk2, hk3, hk4, hk5, hk6⟩
      · rw [if_neg hz, Hp_some]
        exact hskip (fun q => q.2 (hb3.mp (by omega)))
    · rw [if_neg h0, Hp_some]
      exact hskip (fun q => h0 q.1)
  · rintro ⟨x, τ⟩ ⟨e1, e2, e3⟩
    simp only at e1 e2 e3
    subst e1
    simp only [m_X12_posts_L24]
    rw [if_pos (by omega), Hp_some, Lq_inr]
    refine ⟨e2, ?_⟩
    intro s t hs ht
    refine Bb_cg (e3 s t hs ht) ?_
    constructor
    · rintro ⟨k, hk, hk2⟩; exact ⟨k, by omega, hk2⟩
    · rintro ⟨k, hk, hk2⟩; exact ⟨k, by omega, hk2⟩
theorem isFree_sp {σ τ : St} {n : Int} {a t l : Nat} (ha : a < 8) (ht : t < 96) (hl : 1 ≤ l ∧ l ≤ 9) (hs : ∀ d : Nat, d < 96 → Bb (τ 225 (96 * a + d)) (Sgtd σ n a d)) : ∃ b, m_X12_isFree a t l τ = some b ∧ Bb b (Unsn σ n a t l) := by
  have h : Hp (m_X12_isFree a t l τ) (fun b => Bb b (Unsn σ n a t l)) := by
    simp only [m_X12_isFree, vl]
    rw [bnd_s, nx1 (by omega), Hp_bind]
    refine Hp_up (fun j (x : Int) => x = (j : Int) ∧ ∀ d, t < d → d < j → ¬ Sgtd σ n a d) (t + 1) (min (t + l) 96) (by omega) (by omega) ⟨rfl, fun d h1 h2 => by omega⟩ ?_ ?_
    · rintro j x h1 h2 ⟨e1, e2⟩
      subst e1
      simp only [m_X12_isFree_L5]
      rw [wr_id' (by omega) (by omega), if_neg (by omega), if_neg (by omega), ix96 (by omega) (by omega), rd_ok (by omega) (by omega), bnd_s, Int.toNat_natCast]
      have hb := hs j (by omega)
      by_cases hz : τ 225 (96 * a + j) = 0
      · rw [if_pos hz, Hp_some, Lq_inl, nx1 (by omega)]
        refine ⟨rfl, ?_⟩
        intro d d1 d2
        by_cases hdj : d = j
        · subst hdj; exact (Bb_ne hb).mp hz
        · exact e2 d d1 (by omega)
      · rw [if_neg hz, Hp_some, Lq_inr]
        simp only [Hp_some]
        refine Bb_0 (fun q => ?_)
        exact q j (by omega) (by omega) (by omega) (hb.2.mp (by have := hb.1; omega))
    · rintro x ⟨e1, e2⟩
      subst e1
      simp only [m_X12_isFree_L5]
      rw [wr_id' (by omega) (by omega)]
      have hfin : Lq (fun (b : Unit ⊕ Int) => Hp (match b with | .inl () => some 1 | .inr q => some q) (fun b => Bb b (Unsn σ n a t l))) (fun _ : Int => False) (.inr (.inl ())) := by
        rw [Lq_inr]
        simp only [Hp_some]
        exact Bb_1 (fun d d1 d2 d3 => e2 d d1 (by omega))
      by_cases hc : (t : Int) + l ≤ ((min (t + l) 96 : Nat) : Int)
      · rw [if_pos hc, Hp_some]; exact hfin
      · rw [if_neg hc, if_pos (by omega), Hp_some]; exact hfin
  obtain ⟨b, h1, h2⟩ := h
  exact ⟨b, h1, h2⟩
/-- the first row of may: spots that are not watched -/
theorem may_a {σ τ0 : St} {n : Int} (hS : τ0 170 30 = σ 170 30) (hP : PostP σ τ0 n) : Hp (lp (fun z => m_X12_goesOne_L2 z.1 z.2) (0, τ0)) (fun τ => Wr ([(224, 224)], []) τ0 τ ∧ ∀ d s : Nat, d < 96 → s < 10 → Bb (τ 224 (10 * d + s)) ((s : Int) < σ 170 30 ∧ ¬ Wtch σ n s d)) := by
  refine Hp_up (fun j (z : Int × St) => z.1 = (j : Int) ∧ Wr ([(224, 224)], []) τ0 z.2 ∧ ∀ d s : Nat, d < j → s < 10 → Bb (z.2 224 (10 * d + s)) ((s : Int) < σ 170 30 ∧ ¬ Wtch σ n s d)) 0 96 (by omega) (by omega) ⟨rfl, Wr_rf, fun d s h => by omega⟩ ?_ ?_
  · rintro j ⟨x, τ⟩ - hj ⟨e1, e2, e3⟩
    simp only at e1 e2 e3
    subst e1
    simp only [m_X12_goesOne_L2]
    rw [if_neg (by omega), Hp_bind]
    refine Hp_up (fun i (z : Int × St) => z.1 = (i : Int) ∧ Wr ([(224, 224)], []) τ0 z.2 ∧ ∀ d s : Nat, (d < j ∨ (d = j ∧ s < i)) → s < 10 → Bb (z.2 224 (10 * d + s)) ((s : Int) < σ 170 30 ∧ ¬ Wtch σ n s d)) 0 10 (by omega) (by omega) ⟨rfl, e2, fun d s h hs => e3 d s (by omega) hs⟩ ?_ ?_
    · rintro i ⟨x, ρ⟩ - hi ⟨g1, g2, g3⟩
      simp only at g1 g2 g3
      subst g1
      have f30 : ρ 170 30 = σ 170 30 := (g2 170 30 rfl).trans hS
      have f200 : ρ 200 (96 * i + j) = τ0 200 (96 * i + j) := g2 200 _ rfl
      have key : ∀ v : Int, Bb v ((i : Int) < σ 170 30 ∧ ¬ Wtch σ n i j) → Hp ((wt ρ 224 960 (wr (wr (10 * (j : Int)) + (i : Int))) v).bind fun σ11 => some (.inl (wr ((i : Int) + 1), σ11))) (Lq (fun a => Hp (some (Sum.inl (wr ((j : Int) + 1), a))) (Lq (fun τ => Wr ([(224, 224)], []) τ0 τ ∧ ∀ d s : Nat, d < 96 → s < 10 → Bb (τ 224 (10 * d + s)) ((s : Int) < σ 170 30 ∧ ¬ Wtch σ n s d)) (fun (z : Int × St) => z.1 = ((j + 1 : Nat) : Int) ∧ Wr ([(224, 224)], []) τ0 z.2 ∧ ∀ d s : Nat, d < j + 1 → s < 10 → Bb (z.2 224 (10 * d + s)) ((s : Int) < σ 170 30 ∧ ¬ Wtch σ n s d)))) (fun (z : Int × St) => z.1 = ((i + 1 : Nat) : Int) ∧ Wr ([(224, 224)], []) τ0 z.2 ∧ ∀ d s : Nat, (d < j ∨ (d = j ∧ s < i + 1)) → s < 10 → Bb (z.2 224 (10 * d + s)) ((s : Int) < σ 170 30 ∧ ¬ Wtch σ n s d))) := by
        intro v hv
        rw [ix10 (by omega) (by omega), Hp_bind, Hp_wt]
        refine ⟨by omega, ?_⟩
        rw [Int.toNat_natCast, Hp_some, Lq_inl, nx1 (by omega)]
        refine ⟨rfl, Wr_up g2 rfl, ?_⟩
        intro d s h hs
        simp only
        by_cases hds : 10 * d + s = 10 * j + i
        · have h1 : d = j := by omega
          have h2 : s = i := by omega
          subst h1; subst h2
          rw [up_eq]; exact hv
        · rw [up_slot hds]; exact g3 d s (by omega) hs
      simp only [m_X12_goesOne_L11]
      rw [if_neg (by omega), f30]
      by_cases hc : σ 170 30 ≤ (i : Int)
      · rw [if_pos hc]
        exact key 0 (Bb_0 (fun q => by omega))
      · rw [if_neg hc, ix96 (by omega) (by omega), rd_ok (by omega) (by omega), bnd_s, Int.toNat_natCast, f200]
        have hb := hP i j hi hj
        by_cases hz : τ0 200 (96 * i + j) = 0
        · rw [if_pos hz]
          exact key 1 (Bb_1 ⟨by omega, (Bb_ne hb).mp hz⟩)
        · rw [if_neg hz]
          exact key 0 (Bb_0 (fun q => q.2 (hb.2.mp (by have := hb.1; omega))))
    · rintro ⟨x, ρ⟩ ⟨g1, g2, g3⟩
      simp only at g1 g2 g3
      subst g1
      simp only [m_X12_goesOne_L11]
      rw [if_pos (by omega), Hp_some, Lq_inr, Hp_some, Lq_inl, nx1 (by omega)]
      exact ⟨rfl, g2, fun d s h hs => g3 d s (by omega) hs⟩
  · rintro ⟨x, τ⟩ ⟨e1, e2, e3⟩
    simp only at e1 e2 e3
    subst e1
    simp only [m_X12_goesOne_L2]
    rw [if_pos (by omega), Hp_some, Lq_inr]
    exact ⟨e2, e3⟩
/-- as May, by the first j facts -/
def MayJ (σ : St) (n : Int) (a j d s : Nat) : Prop := (s : Int) < σ 170 30 ∧ (((∃ k, k < j ∧ Sgt σ n a d k) ∧ ∀ k, k < j → Sgt σ n a d k → σ 197 k = s) ∨ ((¬ ∃ k, k < j ∧ Sgt σ n a d k) ∧ ¬ Wtch σ n s d))
theorem may_b {σ τ0 : St} {n : Int} {a : Nat} (hB : iBook σ) (hT : iTown σ) (hn : 0 ≤ n ∧ n ≤ σ 30 5) (ha : a < 8) (hw0 : ∀ c j : Nat, c = 195 ∨ c = 196 ∨ c = 197 ∨ c = 198 ∨ (c = 170 ∧ j = 30) → τ0 c j = σ c j) (hz : ∀ d : Nat, d < 96 → τ0 225 (96 * a + d) = 0) (hM : ∀ d s : Nat, d < 96 → s < 10 → Bb (τ0 224 (10 * d + s)) ((s : Int) < σ 170 30 ∧ ¬ Wtch σ n s d)) :
    Hp (lp (fun z => m_X12_goesOne_L73 n a z.1 z.2) (0, τ0)) (fun τ => Wr ([(224, 225)], []) τ0 τ ∧ (∀ b d : Nat, b ≠ a → d < 96 → τ 225 (96 * b + d) = τ0 225 (96 * b + d)) ∧ (∀ d : Nat, d < 96 → Bb (τ 225 (96 * a + d)) (Sgtd σ n a d)) ∧ ∀ d s : Nat, d < 96 → s < 10 → Bb (τ 224 (10 * d + s)) (May σ n a d s)) := by
  have b0 := hB.1
  have t1 := hT.1
  refine Hp_up (fun j (z : Int × St) => z.1 = (j : Int) ∧ Wr ([(224, 225)], []) τ0 z.2 ∧ (∀ b d : Nat, b ≠ a → d < 96 → z.2 225 (96 * b + d) = τ0 225 (96 * b + d)) ∧ (∀ d : Nat, d < 96 → Bb (z.2 225 (96 * a + d)) (∃ k, k < j ∧ Sgt σ n a d k)) ∧ ∀ d s : Nat, d < 96 → s < 10 → Bb (z.2 224 (10 * d + s)) (MayJ σ n a j d s)) 0 n.toNat (by omega) (by omega) ⟨rfl, Wr_rf, fun _ _ _ _ => rfl, ?_, ?_⟩ ?_ ?_
  · intro d hd
    simp only
    rw [hz d hd]
    exact Bb_0 (fun ⟨k, hk, _⟩ => by omega)
  · intro d s hd hs
    refine Bb_cg (hM d s hd hs) ?_
    constructor
    · rintro ⟨q1, q2⟩; exact ⟨q1, Or.inr ⟨fun ⟨k, hk, _⟩ => by omega, q2⟩⟩
    · rintro ⟨q1, (⟨⟨k, hk, -⟩, -⟩ | ⟨-, q2⟩)⟩
      · omega
      · exact ⟨q1, q2⟩
  · rintro j ⟨x, τ⟩ - hj ⟨e1, e2, e3, e4, e5⟩
    simp only at e1 e2 e3 e4 e5
    subst e1
    have hnx := nx1 (j := j) (by omega)
    obtain ⟨c1, c2, c3, -, -, c4, -⟩ := book_at hB (i := j) (by omega)
    have f195 : τ 195 = σ 195 := funext fun i => (e2 195 i rfl).trans (hw0 195 i (by omega))
    have f196 : τ 196 = σ 196 := funext fun i => (e2 196 i rfl).trans (hw0 196 i (by omega))
    have f197 : τ 197 = σ 197 := funext fun i => (e2 197 i rfl).trans (hw0 197 i (by omega))
    have f198 : τ 198 = σ 198 := funext fun i => (e2 198 i rfl).trans (hw0 198 i (by omega))
    have f30 : τ 170 30 = σ 170 30 := (e2 170 30 rfl).trans (hw0 170 30 (by omega))
    have hskip : (∀ d, ¬ Sgt σ n a d j) → Hp (some (Sum.inl (wr ((j : Int) + 1), τ))) (Lq (fun τ => Wr ([(224, 225)], []) τ0 τ ∧ (∀ b d : Nat, b ≠ a → d < 96 → τ 225 (96 * b + d) = τ0 225 (96 * b + d)) ∧ (∀ d : Nat, d < 96 → Bb (τ 225 (96 * a + d)) (Sgtd σ n a d)) ∧ ∀ d s : Nat, d < 96 → s < 10 → Bb (τ 224 (10 * d + s)) (May σ n a d s)) (fun (z : Int × St) => z.1 = ((j + 1 : Nat) : Int) ∧ Wr ([(224, 225)], []) τ0 z.2 ∧ (∀ b d : Nat, b ≠ a → d < 96 → z.2 225 (96 * b + d) = τ0 225 (96 * b + d)) ∧ (∀ d : Nat, d < 96 → Bb (z.2 225 (96 * a + d)) (∃ k, k < j + 1 ∧ Sgt σ n a d k)) ∧ ∀ d s : Nat, d < 96 → s < 10 → Bb (z.2 224 (10 * d + s)) (MayJ σ n a (j + 1) d s))) := by
      intro hno
      have hex : ∀ d, (∃ k, k < j + 1 ∧ Sgt σ n a d k) ↔ ∃ k, k < j ∧ Sgt σ n a d k := by
        intro d
        constructor
        · rintro ⟨k, hk, hk2⟩
          by_cases hkj : k = j
          · subst hkj; exact absurd hk2 (hno d)
          · exact ⟨k, by omega, hk2⟩
        · rintro ⟨k, hk, hk2⟩; exact ⟨k, by omega, hk2⟩
      rw [Hp_some, Lq_inl, hnx]
      refine ⟨rfl, e2, e3, ?_, ?_⟩
      · intro d hd; exact Bb_cg (e4 d hd) (hex d).symm
      · intro d s hd hs
        refine Bb_cg (e5 d s hd hs) ?_
        unfold MayJ
        rw [hex d]
        constructor
        · rintro ⟨q1, (⟨q2, q3⟩ | q2)⟩
          · refine ⟨q1, Or.inl ⟨q2, fun k hk hS => ?_⟩⟩
            by_cases hkj : k = j
            · subst hkj; exact absurd hS (hno d)
            · exact q3 k (by omega) hS
          · exact ⟨q1, Or.inr q2⟩
        · rintro ⟨q1, (⟨q2, q3⟩ | q2)⟩
          · exact ⟨q1, Or.inl ⟨q2, fun k hk hS => q3 k (by omega) hS⟩⟩
          · exact ⟨q1, Or.inr q2⟩
    simp only [m_X12_goesOne_L73]
    rw [if_neg (by omega), rd_ok (by omega) (by omega), bnd_s, Int.toNat_natCast, f195]
    by_cases h1 : σ 195 j = 1
    · rw [if_pos h1, rd_ok (by omega) (by omega), bnd_s, Int.toNat_natCast, f196]
      by_cases h2 : σ 196 j = a
      · rw [if_pos h2]
        obtain ⟨b, hb1, hb2, hb3⟩ := m_isStruck_sp (σ := τ) (f := j) (n := n) (by omega) (by omega)
        rw [strk_cg f195 f196] at hb3
        rw [hb1, bnd_s]
        by_cases hzb : b = 0
        · rw [if_pos hzb]
          have hns : ¬ Strk σ n j := fun q => by have := hb3.mpr q; omega
          have c5 := c4 (by omega)
          obtain ⟨sp, hsp⟩ := Int.eq_ofNat_of_zero_le c5.1.2.1
          obtain ⟨d0, hd0⟩ := Int.eq_ofNat_of_zero_le c5.2.2.1
          have g197 : σ 197 j = sp := by omega
          have g198 : σ 198 j = d0 := by omega
          have hd96 : d0 < 96 := by omega
          have hSj : ∀ d, Sgt σ n a d j ↔ d = d0 := by
            intro d
            constructor
            · rintro ⟨-, -, -, -, q⟩; omega
            · rintro rfl; exact ⟨by omega, h1, h2, hns, g198⟩
          rw [rd_ok (by omega) (by omega), bnd_s, Int.toNat_natCast, f198, g198, Hp_bind, ix96 (d := a) (s := d0) (by omega) (by omega)]
          refine Hp_up (fun i (z : Int × St) => z.1 = (i : Int) ∧ Wr ([(224, 224)], []) τ z.2 ∧ ∀ d s : Nat, d < 96 → s < 10 → Bb (z.2 224 (10 * d + s)) (if d = d0 ∧ s < i then MayJ σ n a (j + 1) d s else MayJ σ n a j d s)) 0 (σ 170 30).toNat (by omega) (by omega) ⟨rfl, Wr_rf, fun d s hd hs => by simp only; rw [if_neg (by omega)]; exact e5 d s hd hs⟩ ?_ ?_
          · rintro i ⟨x, ρ⟩ - hi ⟨g1, g2, g3⟩
            simp only at g1 g2 g3
            subst g1
            have r30 : ρ 170 30 = σ 170 30 := (g2 170 30 rfl).trans f30
            have r197 : ρ 197 j = sp := by rw [g2 197 j rfl, f197, g197]
            have r225 : ρ 225 (96 * a + d0) = τ 225 (96 * a + d0) := g2 225 _ rfl
            have hi10 : i < 10 := by omega
            have hold := g3 d0 i hd96 hi10
            rw [if_neg (by omega)] at hold
            have key : ∀ v : Int, Bb v (MayJ σ n a (j + 1) d0 i) → Hp ((wt ρ 224 960 (wr (wr (10 * (d0 : Int)) + (i : Int))) v).bind fun σ11 => some (.inl (wr ((i : Int) + 1), σ11))) (Lq (fun (σ44 : St) => Hp ((wt σ44 225 768 ((96 * a + d0 : Nat) : Int) 1).bind fun σ45 => some (Sum.inl (wr ((j : Int) + 1), σ45))) (Lq (fun τ => Wr ([(224, 225)], []) τ0 τ ∧ (∀ b d : Nat, b ≠ a → d < 96 → τ 225 (96 * b + d) = τ0 225 (96 * b + d)) ∧ (∀ d : Nat, d < 96 → Bb (τ 225 (96 * a + d)) (Sgtd σ n a d)) ∧ ∀ d s : Nat, d < 96 → s < 10 → Bb (τ 224 (10 * d + s)) (May σ n a d s)) (fun (z : Int × St) => z.1 = ((j + 1 : Nat) : Int) ∧ Wr ([(224, 225)], []) τ0 z.2 ∧ (∀ b d : Nat, b ≠ a → d < 96 → z.2 225 (96 * b + d) = τ0 225 (96 * b + d)) ∧ (∀ d : Nat, d < 96 → Bb (z.2 225 (96 * a + d)) (∃ k, k < j + 1 ∧ Sgt σ n a d k)) ∧ ∀ d s : Nat, d < 96 → s < 10 → Bb (z.2 224 (10 * d + s)) (MayJ σ n a (j + 1) d s)))) (fun (z : Int × St) => z.1 = ((i + 1 : Nat) : Int) ∧ Wr ([(224, 224)], []) τ z.2 ∧ ∀ d s : Nat, d < 96 → s < 10 → Bb (z.2 224 (10 * d + s)) (if d = d0 ∧ s < i + 1 then MayJ σ n a (j + 1) d s else MayJ σ n a j d s))) := by
              intro v hv
              rw [ix10 (by omega) (by omega), Hp_bind, Hp_wt]
              refine ⟨by omega, ?_⟩
              rw [Int.toNat_natCast, Hp_some, Lq_inl, nx1 (by omega)]
              refine ⟨rfl, Wr_up g2 rfl, ?_⟩
              intro d s hd hs
              simp only
              by_cases hds : 10 * d + s = 10 * d0 + i
              · have q1 : d = d0 := by omega
                have q2 : s = i := by omega
                subst q1; subst q2
                rw [up_eq, if_pos (by omega)]; exact hv
              · rw [up_slot hds]
                have := g3 d s hd hs
                by_cases hc : d = d0 ∧ s < i
                · rw [if_pos hc] at this
                  rw [if_pos (by omega)]; exact this
                · rw [if_neg hc] at this
                  rw [if_neg (by omega)]; exact this
            simp only [m_X12_goesOne_L121]
            rw [if_neg (by omega), rd_ok (by omega) (by omega), bnd_s, Int.toNat_natCast, r197]
            by_cases hsp2 : (i : Int) = sp
            · rw [if_pos hsp2, ix96 (by omega) (by omega), rd_ok (by omega) (by omega), bnd_s, Int.toNat_natCast, r225]
              by_cases hz2 : τ 225 (96 * a + d0) = 0
              · rw [if_pos hz2, m_X12_goesOne_J184]
                have hno := (Bb_ne (e4 d0 hd96)).mp hz2
                refine key 1 (Bb_1 ⟨by omega, Or.inl ⟨⟨j, by omega, (hSj d0).mpr rfl⟩, ?_⟩⟩)
                intro k hk hS
                by_cases hkj : k = j
                · subst hkj; omega
                · exact absurd ⟨k, by omega, hS⟩ hno
              · rw [if_neg hz2, ix10 (by omega) (by omega), rd_ok (by omega) (by omega), bnd_s, Int.toNat_natCast]
                have hyes := (e4 d0 hd96).2.mp (by have := (e4 d0 hd96).1; omega)
                by_cases hz3 : ρ 224 (10 * d0 + i) = 0
                · rw [if_pos hz3]
                  have hno := (Bb_ne hold).mp hz3
                  have := key 0 (Bb_0 (fun q => hno ⟨q.1, Or.inl ⟨hyes, fun k hk hS => by
                    rcases q.2 with ⟨-, q2⟩ | ⟨q2, -⟩
                    · exact q2 k (by omega) hS
                    · exact absurd ⟨j, by omega, (hSj d0).mpr rfl⟩ q2⟩⟩))
                  rw [ix10 (by omega) (by omega)] at this
                  exact this
                · rw [if_neg hz3, m_X12_goesOne_J184]
                  have hm := hold.2.mp (by have := hold.1; omega)
                  refine key 1 (Bb_1 ⟨hm.1, Or.inl ⟨⟨j, by omega, (hSj d0).mpr rfl⟩, ?_⟩⟩)
                  intro k hk hS
                  by_cases hkj : k = j
                  · subst hkj; omega
                  · rcases hm.2 with ⟨-, q2⟩ | ⟨q2, -⟩
                    · exact q2 k (by omega) hS
                    · exact absurd hyes q2
            · rw [if_neg hsp2]
              refine key 0 (Bb_0 ?_)
              rintro ⟨-, (⟨-, q⟩ | ⟨q, -⟩)⟩
              · have := q j (by omega) ((hSj d0).mpr rfl)
                omega
              · exact q ⟨j, by omega, (hSj d0).mpr rfl⟩
          · rintro ⟨x, ρ⟩ ⟨g1, g2, g3⟩
            simp only at g1 g2 g3
            subst g1
            have r30 : ρ 170 30 = σ 170 30 := (g2 170 30 rfl).trans f30
            simp only [m_X12_goesOne_L121]
            rw [if_pos (by omega), Hp_some, Lq_inr, Hp_bind, Hp_wt]
            refine ⟨by omega, ?_⟩
            rw [Int.toNat_natCast, Hp_some, Lq_inl, hnx]
            have g225 : ∀ i, ρ 225 i = τ 225 i := fun i => g2 225 i rfl
            refine ⟨rfl, Wr_up (Wr_tr e2 (Wr_sb g2 rfl)) rfl, ?_, ?_, ?_⟩
            · intro b d hb hd
              simp only
              rw [up_slot (by omega), g225]
              exact e3 b d hb hd
            · intro d hd
              simp only
              by_cases hdd : d = d0
              · subst hdd
                rw [up_eq]
                exact Bb_1 ⟨j, by omega, (hSj d).mpr rfl⟩
              · rw [up_slot (by omega), g225]
                refine Bb_cg (e4 d hd) ?_
                constructor
                · rintro ⟨k, hk, hk2⟩; exact ⟨k, by omega, hk2⟩
                · rintro ⟨k, hk, hk2⟩
                  by_cases hkj : k = j
                  · subst hkj; exact absurd ((hSj d).mp hk2) hdd
                  · exact ⟨k, by omega, hk2⟩
            · intro d s hd hs
              simp only
              rw [up_cell (by omega)]
              have := g3 d s hd hs
              by_cases hdd : d = d0
              · by_cases hss : s < (σ 170 30).toNat
                · rw [if_pos ⟨hdd, hss⟩] at this; exact this
                · rw [if_neg (by omega)] at this
                  refine Bb_cg this ?_
                  constructor
                  · rintro ⟨q, -⟩; omega
                  · rintro ⟨q, -⟩; omega
              · rw [if_neg (by omega)] at this
                refine Bb_cg this ?_
                have hno : ∀ k, k = j → ¬ Sgt σ n a d k := fun k hk q => hdd ((hSj d).mp (by rw [← hk]; exact q))
                have hex : (∃ k, k < j + 1 ∧ Sgt σ n a d k) ↔ ∃ k, k < j ∧ Sgt σ n a d k := by
                  constructor
                  · rintro ⟨k, hk, hk2⟩
                    by_cases hkj : k = j
                    · exact absurd hk2 (hno k hkj)
                    · exact ⟨k, by omega, hk2⟩
                  · rintro ⟨k, hk, hk2⟩; exact ⟨k, by omega, hk2⟩
                unfold MayJ
                rw [hex]
                constructor
                · rintro ⟨q1, (⟨q2, q3⟩ | q2)⟩
                  · refine ⟨q1, Or.inl ⟨q2, fun k hk hS => ?_⟩⟩
                    by_cases hkj : k = j
                    · exact absurd hS (hno k hkj)
                    · exact q3 k (by omega) hS
                  · exact ⟨q1, Or.inr q2⟩
                · rintro ⟨q1, (⟨q2, q3⟩ | q2)⟩
                  · exact ⟨q1, Or.inl ⟨q2, fun k hk hS => q3 k (by omega) hS⟩⟩
                  · exact ⟨q1, Or.inr q2⟩
        · rw [if_neg hzb]
          exact hskip (fun d q => q.2.2.2.1 (hb3.mp (by omega)))
      · rw [if_neg h2]
        exact hskip (fun d q => h2 q.2.2.1)
    · rw [if_neg h1]
      exact hskip (fun d q => h1 q.2.1)
  · rintro ⟨x, τ⟩ ⟨e1, e2, e3, e4, e5⟩
    simp only at e1 e2 e3 e4 e5
    subst e1
    simp only [m_X12_goesOne_L73]
    rw [if_pos (by omega), Hp_some, Lq_inr]
    have hex : ∀ d, (∃ k, k < n.toNat ∧ Sgt σ n a d k) ↔ Sgtd σ n a d := by
      intro d
      constructor
      · rintro ⟨k, -, hk⟩; exact ⟨k, hk⟩
      · rintro ⟨k, hk⟩; exact ⟨k, by have := hk.1; omega, hk⟩
    refine ⟨e2, e3, fun d hd => Bb_cg (e4 d hd) (hex d), ?_⟩
    intro d s hd hs
    refine Bb_cg (e5 d s hd hs) ?_
    unfold MayJ May
    rw [hex d]
    constructor
    · rintro ⟨q1, (⟨q2, q3⟩ | q2)⟩
      · exact ⟨q1, Or.inl ⟨q2, fun k hS => q3 k (by have := hS.1; omega) hS⟩⟩
      · exact ⟨q1, Or.inr q2⟩
    · rintro ⟨q1, (⟨q2, q3⟩ | q2)⟩
      · exact ⟨q1, Or.inl ⟨q2, fun k hk hS => q3 k hS⟩⟩
      · exact ⟨q1, Or.inr q2⟩
