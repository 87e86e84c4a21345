/-! the book looked at: what is struck, what is watched -/
/-- the books agree (without the spots' number) -/
theorem book_at {σ : St} (h : iBook σ) {i : Nat} (hi : (i : Int) < σ 30 5) : i < 150 ∧ σ 195 i = σ 31 i ∧ σ 196 i = σ 32 i ∧ (σ 31 i = 3 → 0 ≤ σ 32 i ∧ σ 32 i < i) ∧
    (σ 31 i = 0 → (σ 197 i = σ 33 i ∧ 0 ≤ σ 33 i ∧ σ 33 i < σ 1 4) ∧ (σ 198 i = σ 34 i ∧ σ 199 i = σ 35 i ∧ 0 ≤ σ 34 i ∧ σ 34 i < σ 35 i ∧ σ 35 i ≤ 96)) ∧
    (σ 31 i = 1 → (σ 197 i = σ 33 i ∧ 0 ≤ σ 33 i ∧ σ 33 i < σ 1 4) ∧ (σ 198 i = σ 34 i ∧ 0 ≤ σ 34 i ∧ σ 34 i < 96)) ∧
    (σ 31 i = 2 → (σ 198 i = σ 34 i ∧ 0 ≤ σ 34 i ∧ σ 34 i < 96)) := by
  obtain ⟨h1, h2⟩ := h
  obtain ⟨g1, g2, g3, g4, g5, g6⟩ := h2 i hi
  exact ⟨by omega, g1.1, g2, g6, g3, g4, g5⟩
/-- what a look leaves -/
def LookP (σ σ' : St) (n : Int) : Prop := Wr ([(36, 37)], [(30, 6)]) σ σ' ∧ σ' 30 6 = n ∧
  (∀ f : Nat, f < 150 → (σ' 36 f = 1 ∨ σ' 36 f = 0) ∧ (σ' 36 f = 1 ↔ Strk σ n f)) ∧
  (∀ t : Nat, t < 96 → InI (σ' 37 t) ∧ ∀ s : Nat, tb (σ' 37 t) s = true ↔ Wtch σ n s t)
theorem holds_at {σ σ' : St} {n : Int} (hB : iBook σ) (hn : 0 ≤ n ∧ n ≤ σ 30 5) (hw : Wr ([(36, 37)], [(30, 6)]) σ σ') (h6 : σ' 30 6 = n) (hs : ∀ f : Nat, f < 150 → (σ' 36 f = 1 ∨ σ' 36 f = 0) ∧ (σ' 36 f = 1 ↔ Strk σ n f)) {i : Nat} (hi : (i : Int) < n) (k : Int) :
    ∃ b, m_X1_holds i k σ' = some b ∧ (b = 0 ∨ b = 1) ∧ (b = 1 ↔ σ 195 i = k ∧ ¬ Strk σ n i) := by
  have b0 := hB.1
  obtain ⟨b1, b2, b3, -⟩ := book_at hB (i := i) (by omega)
  have e1 : σ' 31 = σ 31 := funext fun j => hw 31 j rfl
  have e2 : σ' 30 5 = σ 30 5 := hw 30 5 rfl
  have e3 := hs i b1
  rw [m_X1_holds, isFactOf_eq (by omega)]
  simp only [Option.bind_some]
  have hc : 0 ≤ (i : Int) ∧ (i : Int) < σ' 30 6 ∧ (i : Int) < σ' 30 5 := by omega
  simp only [if_pos hc, Int.reduceEq, if_false]
  rw [rd_ok (by omega) (by omega), rd_ok (by omega) (by omega)]
  simp only [Option.bind_some, Int.toNat_natCast]
  rw [e1, b2]
  by_cases hk : σ 31 i = k
  · rw [if_pos hk]
    by_cases hz : σ' 36 i = 0
    · refine ⟨1, by rw [if_pos hz], Or.inr rfl, ?_⟩
      have : ¬ Strk σ n i := fun q => by
        have := e3.2.mpr q
        omega
      exact ⟨fun _ => ⟨hk, this⟩, fun _ => rfl⟩
    · refine ⟨0, by rw [if_neg hz], Or.inl rfl, ?_⟩
      have : Strk σ n i := e3.2.mp (by omega)
      exact ⟨fun q => absurd q (by decide), fun q => absurd this q.2⟩
  · refine ⟨0, by rw [if_neg hk], Or.inl rfl, ?_⟩
    exact ⟨fun q => absurd q (by decide), fun q => absurd q.1 hk⟩
theorem watch_sp {σ : St} {i : Nat} (hi : i < 150) (hf : 0 ≤ σ 34 i) (ht : σ 35 i ≤ 96) (hl : σ 34 i < σ 35 i) :
    Hp (m_X1_watch i σ) (fun σ' => Wr ([(37, 37)], []) σ σ' ∧ ∀ t : Nat, t < 96 → σ' 37 t = if σ 34 i ≤ t ∧ (t : Int) < σ 35 i then orI (σ 37 t) (shlI 1 (σ 33 i)) else σ 37 t) := by
  rw [m_X1_watch, rd_ok (by omega) (by omega)]
  simp only [Option.bind_some, vl, Int.toNat_natCast, Hp_bind, Hp_some]
  rw [show maxI (σ 34 i) 0 = σ 34 i by unfold maxI; split <;> omega]
  refine Hp_up (fun j (a : Int × St) => a.1 = (j : Int) ∧ Wr ([(37, 37)], []) σ a.2 ∧ ∀ t : Nat, t < 96 → a.2 37 t = if σ 34 i ≤ t ∧ (t : Int) < j then orI (σ 37 t) (shlI 1 (σ 33 i)) else σ 37 t) (σ 34 i).toNat (σ 35 i).toNat (by omega) (by omega) ⟨by simp only; omega, Wr_rf, ?_⟩ ?_ ?_
  · intro t ht
    rw [if_neg (by omega)]
  · rintro j ⟨x, τ⟩ h1 h2 ⟨e1, e2, e3⟩
    simp only at e1 e2 e3
    subst e1
    have f1 : τ 35 i = σ 35 i := e2 35 i rfl
    have f2 : τ 33 i = σ 33 i := e2 33 i rfl
    simp only [m_X1_watch_L11]
    rw [rd_ok (by omega) (by omega)]
    simp only [Option.bind_some, Int.toNat_natCast]
    rw [f1, if_neg (by omega), if_neg (by omega), Hp_bind, Hp_rd]
    refine ⟨by omega, ?_⟩
    rw [Hp_bind, Hp_rd]
    refine ⟨by omega, ?_⟩
    rw [Hp_bind, Hp_wt]
    refine ⟨by omega, ?_⟩
    rw [Hp_some, Lq_inl]
    simp only [Int.toNat_natCast]
    refine ⟨by rw [wr_id' (by omega) (by omega)]; omega, Wr_up e2 rfl, ?_⟩
    intro t ht
    by_cases htj : t = j
    · subst htj
      rw [up_eq, if_pos (by omega), f2, e3 t ht, if_neg (by omega)]
    · rw [up_slot htj, e3 t ht]
      by_cases hc : σ 34 i ≤ t ∧ (t : Int) < j
      · rw [if_pos hc, if_pos (by omega)]
      · rw [if_neg hc, if_neg (by omega)]
  · rintro ⟨x, τ⟩ ⟨e1, e2, e3⟩
    simp only at e1 e2 e3
    subst e1
    have f1 : τ 35 i = σ 35 i := e2 35 i rfl
    simp only [m_X1_watch_L11]
    rw [rd_ok (by omega) (by omega)]
    simp only [Option.bind_some, Int.toNat_natCast]
    rw [f1, if_pos (by omega), Hp_some, Lq_inr]
    refine ⟨e2, ?_⟩
    intro t ht
    rw [e3 t ht]
    by_cases hc : σ 34 i ≤ t ∧ (t : Int) < σ 35 i
    · rw [if_pos (by omega), if_pos hc]
    · rw [if_neg (by omega), if_neg hc]
/-- a loop that fills a cell -/
theorem fill_sp {f : Int × St → Option ((Int × St) ⊕ St)} {c N : Nat} {NI v : Int} {σ : St} (hN : N < 100000) (hNI : NI = (N : Int)) (hf : ∀ (j : Int) (τ : St), f (j, τ) = if NI ≤ j then some (.inr τ) else (wt τ c NI j v).bind fun τ' => some (.inl (wr (j + 1), τ'))) :
    Hp (lp f (0, σ)) (fun τ => Wr ([(c, c)], []) σ τ ∧ ∀ j : Nat, j < N → τ c j = v) := by
  subst hNI
  have hin : ∀ i : Nat, inR ([(c, c)], []) c i = true := by
    intro i
    simp [inR, inC]
  refine Hp_up (fun j (a : Int × St) => a.1 = (j : Int) ∧ Wr ([(c, c)], []) σ a.2 ∧ ∀ i : Nat, i < j → a.2 c i = v) 0 N hN (by omega) ⟨rfl, Wr_rf, fun i h => absurd h (by omega)⟩ ?_ ?_
  · rintro j ⟨x, τ⟩ - h2 ⟨e1, e2, e3⟩
    simp only at e1 e2 e3
    subst e1
    rw [hf, if_neg (by omega), Hp_bind, Hp_wt]
    refine ⟨by omega, ?_⟩
    rw [Hp_some, Lq_inl]
    simp only [Int.toNat_natCast]
    refine ⟨by rw [wr_id' (by omega) (by omega)]; omega, Wr_up e2 (hin _), ?_⟩
    intro i hi
    by_cases hij : i = j
    · subst hij; rw [up_eq]
    · rw [up_slot hij]; exact e3 i (by omega)
  · rintro ⟨x, τ⟩ ⟨e1, e2, e3⟩
    simp only at e1 e2 e3
    subst e1
    rw [hf, if_pos (by omega), Hp_some, Lq_inr]
    exact ⟨e2, e3⟩
theorem look_b {σ σ0 : St} {n : Int} (hB : iBook σ) (hn : 0 ≤ n ∧ n ≤ σ 30 5) (e2 : Wr ([(36, 36)], [(30, 6)]) σ σ0) (e3 : σ0 30 6 = n) (e4 : ∀ f : Nat, f < 150 → σ0 36 f = 0) : Hp (lp (fun a => m_X1_look_L36 a.1 a.2) (0, σ0)) (fun τ => Wr ([(36, 36)], [(30, 6)]) σ τ ∧ τ 30 6 = n ∧ ∀ f : Nat, f < 150 → (τ 36 f = 1 ∨ τ 36 f = 0) ∧ (τ 36 f = 1 ↔ Strk σ n f)) := by
  have b0 := hB.1
  refine Hp_up (fun j (a : Int × St) => a.1 = (j : Int) ∧ Wr ([(36, 36)], [(30, 6)]) σ a.2 ∧ a.2 30 6 = n ∧ ∀ f : Nat, f < 150 → (a.2 36 f = 1 ∨ a.2 36 f = 0) ∧ (a.2 36 f = 1 ↔ ∃ k : Nat, k < j ∧ σ 195 k = 3 ∧ σ 196 k = f)) 0 n.toNat (by omega) (by omega) ⟨rfl, e2, e3, ?_⟩ ?_ ?_
  · intro f hf
    have := e4 f (by omega)
    refine ⟨Or.inr this, ?_⟩
    constructor
    · intro h; simp only at h; omega
    · rintro ⟨k, hk, -⟩; omega
  · clear e2 e3 e4 σ0
    rintro j ⟨x, τ⟩ - h2 ⟨e1, e2, e3, e4⟩
    simp only at e1 e2 e3 e4
    subst e1
    obtain ⟨b1, b2, b3, b4, -⟩ := book_at hB (i := j) (by omega)
    have f1 : τ 31 j = σ 31 j := e2 31 j rfl
    have f2 : τ 32 j = σ 32 j := e2 32 j rfl
    have f3 : τ 30 5 = σ 30 5 := e2 30 5 rfl
    simp only [m_X1_look_L36]
    rw [if_neg (by omega), rd_ok (by omega) (by omega)]
    simp only [Option.bind_some, Int.toNat_natCast]
    rw [f1]
    by_cases h3 : σ 31 j = 3
    · have b5 := b4 h3
      rw [if_pos h3, rd_ok (by omega) (by omega)]
      simp only [Option.bind_some, Int.toNat_natCast]
      rw [isFactOf_eq (by omega)]
      simp only [Option.bind_some]
      have hc : 0 ≤ τ 32 j ∧ τ 32 j < τ 30 6 ∧ τ 32 j < τ 30 5 := by omega
      simp only [if_pos hc, Int.reduceEq, if_false]
      rw [Hp_bind, Hp_wt, f2]
      refine ⟨by omega, ?_⟩
      rw [Hp_some, Lq_inl]
      refine ⟨by simp only; rw [wr_id' (by omega) (by omega)]; omega, Wr_up e2 rfl, by simp only; rw [up_cell (by decide)]; exact e3, ?_⟩
      intro f hf
      simp only
      by_cases hff : f = (σ 32 j).toNat
      · subst hff
        rw [up_eq]
        refine ⟨Or.inl rfl, fun _ => ⟨j, by omega, by omega, by omega⟩, fun _ => rfl⟩
      · rw [up_slot hff]
        refine ⟨(e4 f hf).1, (e4 f hf).2.trans ?_⟩
        constructor
        · rintro ⟨k, hk, hk2⟩; exact ⟨k, by omega, hk2⟩
        · rintro ⟨k, hk, hk2, hk3⟩
          refine ⟨k, ?_, hk2, hk3⟩
          by_cases hkj : k = j
          · subst hkj; omega
          · omega
    · rw [if_neg h3, Hp_some, Lq_inl]
      refine ⟨by simp only; rw [wr_id' (by omega) (by omega)]; omega, e2, e3, ?_⟩
      intro f hf
      refine ⟨(e4 f hf).1, (e4 f hf).2.trans ?_⟩
      constructor
      · rintro ⟨k, hk, hk2⟩; exact ⟨k, by omega, hk2⟩
      · rintro ⟨k, hk, hk2, hk3⟩
        refine ⟨k, ?_, hk2, hk3⟩
        by_cases hkj : k = j
        · subst hkj; omega
        · omega
  · clear e2 e3 e4 σ0
    rintro ⟨x, τ⟩ ⟨e1, e2, e3, e4⟩
    simp only at e1 e2 e3 e4
    subst e1
    simp only [m_X1_look_L36]
    rw [if_pos (by omega), Hp_some, Lq_inr]
    have hst : ∀ f : Nat, f < 150 → (τ 36 f = 1 ∨ τ 36 f = 0) ∧ (τ 36 f = 1 ↔ Strk σ n f) := by
      intro f hf
      refine ⟨(e4 f hf).1, (e4 f hf).2.trans ?_⟩
      constructor
      · rintro ⟨k, hk, hk2, hk3⟩
        obtain ⟨b1, b2, b3, b4, -⟩ := book_at hB (i := k) (by omega)
        have := b4 (by omega)
        exact ⟨k, by omega, by omega, hk2, hk3⟩
      · rintro ⟨k, hk0, hk, hk2, hk3⟩
        exact ⟨k, by omega, hk2, hk3⟩
    exact ⟨e2, e3, hst⟩
theorem look_d {σ ρ : St} {n : Int} (hB : iBook σ) (hs10 : σ 1 4 ≤ 10) (hn : 0 ≤ n ∧ n ≤ σ 30 5) (hw0 : Wr ([(36, 37)], [(30, 6)]) σ ρ) (g0 : ρ 30 6 = n) (hst : ∀ f : Nat, f < 150 → (ρ 36 f = 1 ∨ ρ 36 f = 0) ∧ (ρ 36 f = 1 ↔ Strk σ n f)) (e6 : ∀ f : Nat, f < 96 → ρ 37 f = 0) : Hp (lp (fun a => m_X1_look_L112 a.1 a.2) (0, ρ)) (fun σ' => LookP σ σ' n) := by
  have b0 := hB.1
  refine Hp_up (fun j (a : Int × St) => a.1 = (j : Int) ∧ Wr ([(37, 37)], []) ρ a.2 ∧ ∀ t : Nat, t < 96 → InI (a.2 37 t) ∧ ∀ s : Nat, (tb (a.2 37 t) s = true ↔ ∃ k : Nat, k < j ∧ σ 195 k = 0 ∧ ¬ Strk σ n k ∧ σ 197 k = s ∧ σ 198 k ≤ t ∧ (t : Int) < σ 199 k)) 0 n.toNat (by omega) (by omega) ⟨rfl, Wr_rf, ?_⟩ ?_ ?_
  · intro t ht
    simp only
    rw [e6 t ht]
    refine ⟨⟨by decide, by decide⟩, ?_⟩
    intro s
    rw [tb_zero]
    constructor
    · intro h; exact absurd h (by decide)
    · rintro ⟨k, hk, -⟩; omega
  · rintro j ⟨x, π⟩ - h2 ⟨e1, e7, e8⟩
    simp only at e1 e7 e8
    subst e1
    have hw1 : Wr ([(36, 37)], [(30, 6)]) σ π := Wr_tr hw0 (Wr_sb e7 rfl)
    have g6 : π 30 6 = n := by rw [e7 30 6 rfl, g0]
    have g36 : ∀ f : Nat, π 36 f = ρ 36 f := fun f => e7 36 f rfl
    obtain ⟨b, hb1, hb2, hb3⟩ := holds_at hB hn hw1 g6 (fun f hf => by rw [g36]; exact hst f hf) (i := j) (by omega) 0
    obtain ⟨b1, b2, b3, b4, b5, -⟩ := book_at hB (i := j) (by omega)
    simp only [m_X1_look_L112]
    rw [if_neg (by omega), hb1]
    simp only [Option.bind_some]
    by_cases hz : b = 0
    · rw [if_pos hz, Hp_some, Lq_inl]
      refine ⟨by simp only; rw [wr_id' (by omega) (by omega)]; omega, e7, ?_⟩
      intro t ht
      refine ⟨(e8 t ht).1, fun s => ((e8 t ht).2 s).trans ?_⟩
      constructor
      · rintro ⟨k, hk, hk2⟩; exact ⟨k, by omega, hk2⟩
      · rintro ⟨k, hk, hk2, hk3, hk4⟩
        refine ⟨k, ?_, hk2, hk3, hk4⟩
        by_cases hkj : k = j
        · subst hkj
          have := hb3.mpr ⟨hk2, hk3⟩
          omega
        · omega
    · rw [if_neg hz]
      have hb4 := hb3.mp (by omega)
      have b6 := b5 (by omega)
      have c1 : π 33 j = σ 33 j := hw1 33 j rfl
      have c2 : π 34 j = σ 34 j := hw1 34 j rfl
      have c3 : π 35 j = σ 35 j := hw1 35 j rfl
      rw [Hp_bind]
      refine Hp_mono (watch_sp (i := j) (by omega) (by omega) (by omega) (by omega)) ?_
      rintro π' ⟨e9, e10⟩
      rw [Hp_some, Lq_inl]
      refine ⟨by simp only; rw [wr_id' (by omega) (by omega)]; omega, Wr_tr e7 e9, ?_⟩
      intro t ht
      simp only
      rw [e10 t ht, c1, c2, c3]
      obtain ⟨e11, e12⟩ := e8 t ht
      by_cases hc : σ 34 j ≤ t ∧ (t : Int) < σ 35 j
      · rw [if_pos hc]
        refine ⟨orI_in _ _, ?_⟩
        intro s
        obtain ⟨sp, hsp⟩ := Int.eq_ofNat_of_zero_le b6.1.2.1
        rw [tb_or, hsp, tb_bit (by omega), Bool.or_eq_true, e12 s, decide_eq_true_eq]
        constructor
        · rintro (⟨k, hk, hk2⟩ | hk)
          · exact ⟨k, by omega, hk2⟩
          · exact ⟨j, by omega, hb4.1, hb4.2, by omega, by omega, by omega⟩
        · rintro ⟨k, hk, hk2, hk3, hk4, hk5⟩
          by_cases hkj : k = j
          · subst hkj; right; omega
          · left; exact ⟨k, by omega, hk2, hk3, hk4, hk5⟩
      · rw [if_neg hc]
        refine ⟨e11, ?_⟩
        intro s
        rw [e12 s]
        constructor
        · rintro ⟨k, hk, hk2⟩
          exact ⟨k, by omega, hk2⟩
        · rintro ⟨k, hk, hk2, hk3, hk4, hk5⟩
          by_cases hkj : k = j
          · subst hkj; omega
          · exact ⟨k, by omega, hk2, hk3, hk4, hk5⟩
  · rintro ⟨x, π⟩ ⟨e1, e7, e8⟩
    simp only at e1 e7 e8
    subst e1
    have g6 : π 30 6 = n := by rw [e7 30 6 rfl, g0]
    simp only [m_X1_look_L112]
    rw [if_pos (by omega), Hp_some, Lq_inr]
    refine ⟨Wr_tr hw0 (Wr_sb e7 rfl), g6, ?_, ?_⟩
    · intro f hf
      rw [e7 36 f rfl]
      exact hst f hf
    · intro t ht
      refine ⟨(e8 t ht).1, fun s => ((e8 t ht).2 s).trans ?_⟩
      constructor
      · rintro ⟨k, hk, hk2⟩; exact ⟨k, by omega, hk2⟩
      · rintro ⟨k, hk, hk2⟩; exact ⟨k, by omega, hk2⟩
theorem q_a : (150 : Nat) < 100000 := by omega
theorem q_b : (150 : Int) = ((150 : Nat) : Int) := by omega
theorem q_c (j : Int) (τ : St) : m_X1_look_L14 j τ = if (150 : Int) ≤ j then some (.inr τ) else (wt τ 36 150 j 0).bind fun τ' => some (.inl (wr (j + 1), τ')) := by rw [m_X1_look_L14]
theorem q_d (j : Int) (τ : St) : m_X1_look_L91 j τ = if (96 : Int) ≤ j then some (.inr τ) else (wt τ 37 96 j 0).bind fun τ' => some (.inl (wr (j + 1), τ')) := by rw [m_X1_look_L91]
theorem look_s1 {σ : St} : Hp (lp (fun a => m_X1_look_L14 a.1 a.2) (0, σ)) (fun τ => Wr ([(36, 36)], []) σ τ ∧ ∀ j : Nat, j < 150 → τ 36 j = 0) := fill_sp (N := 150) (NI := 150) q_a q_b q_c
theorem look_s3 {σ : St} : Hp (lp (fun a => m_X1_look_L91 a.1 a.2) (0, σ)) (fun τ => Wr ([(37, 37)], []) σ τ ∧ ∀ j : Nat, j < 96 → τ 37 j = 0) := fill_sp (N := 96) (NI := 96) (by omega) (by omega) q_d
theorem bnd_s {α β : Type} (a : α) (f : α → Option β) : Option.bind (some a) f = f a := congrArg (fun x => x) rfl
theorem pt_s (σ : St) (k j : Nat) (x : Int) : pt σ k j x = some (up σ k j x) := congrArg (fun x => x) rfl
theorem look_s4 {σ σ1 σ2 σ3 σ4 : St} {n : Int} (hmin : minI n (σ 30 5) = n) (o1 : lp (fun a => m_X1_look_L14 a.1 a.2) (0, up σ 30 6 n) = some σ1) (o2 : lp (fun a => m_X1_look_L36 a.1 a.2) (0, σ1) = some σ2) (o3 : lp (fun a => m_X1_look_L91 a.1 a.2) (0, σ2) = some σ3) (o4 : lp (fun a => m_X1_look_L112 a.1 a.2) (0, σ3) = some σ4) : m_X1_look n σ = some σ4 := by
  rw [m_X1_look, hmin, pt_s, bnd_s, o1, bnd_s, o2, bnd_s, o3, bnd_s, o4, bnd_s]
theorem look_sp {σ : St} {n : Int} (hB : iBook σ) (hs10 : σ 1 4 ≤ 10) (hn : 0 ≤ n ∧ n ≤ σ 30 5) : Hp (m_X1_look n σ) (fun σ' => LookP σ σ' n) := by
  have hmin : minI n (σ 30 5) = n := by unfold minI; split <;> omega
  obtain ⟨σ1, o1, w1, z1⟩ := look_s1 (σ := up σ 30 6 n)
  have g1 : σ1 30 6 = n := by rw [w1 30 6 rfl, up_eq]
  obtain ⟨σ2, o2, w2, s2, h2⟩ := look_b hB hn (Wr_tr (Wr_up Wr_rf rfl) (Wr_sb w1 rfl)) g1 z1
  obtain ⟨σ3, o3, w3, z3⟩ := look_s3 (σ := σ2)
  have g3 : σ3 30 6 = n := by rw [w3 30 6 rfl, s2]
  obtain ⟨σ4, o4, w4⟩ := look_d hB hs10 hn (Wr_tr (Wr_sb w2 rfl) (Wr_sb w3 rfl)) g3 (fun f hf => by rw [w3 36 f rfl]; exact h2 f hf) z3
  exact ⟨σ4, look_s4 hmin o1 o2 o3 o4, w4⟩
theorem m_isStruck_sp {σ : St} {f : Nat} {n : Int} (hn : 0 ≤ n ∧ n ≤ 150) (hf : f < 150) : ∃ b, m_X12_isStruck f n σ = some b ∧ (b = 0 ∨ b = 1) ∧ (b = 1 ↔ Strk σ n f) := by
  have h : Hp (m_X12_isStruck f n σ) (fun b => (b = 0 ∨ b = 1) ∧ (b = 1 ↔ Strk σ n f)) := by
    simp only [m_X12_isStruck, vl, Option.bind_some]
    rw [wr_id' (by omega) (by omega), Hp_bind]
    refine Hp_up (fun j (x : Int) => x = (j : Int) ∧ ∀ k : Nat, f < k → k < j → ¬ (σ 195 k = 3 ∧ σ 196 k = f)) (f + 1) (max n.toNat (f + 1)) (by omega) (by omega) ⟨by omega, fun k h1 h2 => by omega⟩ ?_ ?_
    · rintro j x h1 h2 ⟨e1, e2⟩
      subst e1
      simp only [m_X12_isStruck_L4]
      rw [if_neg (by omega), rd_ok (by omega) (by omega)]
      simp only [Option.bind_some, Int.toNat_natCast]
      have hgo : ¬ (σ 195 j = 3 ∧ σ 196 j = f) → Hp (some (Sum.inl (wr ((j : Int) + 1)))) (Lq (fun (a : Unit ⊕ Int) => Hp (match a with | .inl () => some 0 | .inr q => some q) (fun b => (b = 0 ∨ b = 1) ∧ (b = 1 ↔ Strk σ n f))) (fun x => x = ((j + 1 : Nat) : Int) ∧ ∀ k : Nat, f < k → k < j + 1 → ¬ (σ 195 k = 3 ∧ σ 196 k = f))) := by
        intro hc
        rw [Hp_some, Lq_inl]
        refine ⟨by rw [wr_id' (by omega) (by omega)]; omega, ?_⟩
        intro k h3 h4
        by_cases hk : k = j
        · subst hk; exact hc
        · exact e2 k h3 (by omega)
      by_cases h3 : σ 195 j = 3
      · rw [if_pos h3, rd_ok (by omega) (by omega)]
        simp only [Option.bind_some, Int.toNat_natCast]
        by_cases h4 : σ 196 j = f
        · rw [if_pos h4, Hp_some, Lq_inr]
          simp only [Hp_some]
          exact ⟨Or.inr (by trivial), fun _ => ⟨j, by omega, by omega, h3, h4⟩, fun _ => by trivial⟩
        · rw [if_neg h4]; exact hgo (fun q => h4 q.2)
      · rw [if_neg h3]; exact hgo (fun q => h3 q.1)
    · rintro x ⟨e1, e2⟩
      subst e1
      simp only [m_X12_isStruck_L4]
      rw [if_pos (by omega), Hp_some, Lq_inr]
      simp only [Hp_some]
      refine ⟨Or.inl (by trivial), fun q => absurd q (by decide), ?_⟩
      rintro ⟨k, h1, h2, h3⟩
      exact absurd h3 (e2 k h1 (by omega))
  obtain ⟨b, h1, h2⟩ := h
  exact ⟨b, h1, h2⟩
theorem inv_look {σ σ' : St} {n : Int} (hI : Inv σ) (h : LookP σ σ' n) : Inv σ' := by
  refine inv_step (L := ([(36, 37)], [(30, 6)])) hI ?_ (Or.inl (by decide +kernel)) (Or.inl (by decide +kernel)) (Or.inl (by decide +kernel)) (Or.inl (by decide +kernel)) (Or.inl (by decide +kernel)) (Or.inl (by decide +kernel)) (Or.inl (by decide +kernel)) (Or.inl (by decide +kernel)) (Or.inl (by decide +kernel)) (Or.inl (by decide +kernel)) (Or.inl (by decide +kernel))
  exact h.1
theorem isKnow_eq {n : Int} {σ : St} : m_X11_isKnowledge n σ = some (if 0 ≤ n ∧ n ≤ σ 30 5 then 1 else 0) := by
  unfold m_X11_isKnowledge
  split
  · rw [if_neg (by omega)]
  · split
    · rw [if_neg (by omega)]
    · rw [if_pos (by omega)]
theorem m_isKnown_eq {n : Int} {σ : St} : m_X12_isKnown n σ = some (if 0 ≤ n ∧ n ≤ σ 170 41 then 1 else 0) := by
  unfold m_X12_isKnown
  split
  · rw [if_neg (by omega)]
  · split
    · rw [if_neg (by omega)]
    · rw [if_pos (by omega)]
theorem strk_cg {σ σ' : St} (h1 : σ' 195 = σ 195) (h2 : σ' 196 = σ 196) (n : Int) (f : Nat) : Strk σ' n f ↔ Strk σ n f := by
  unfold Strk
  rw [h1, h2]
theorem c_struck : PS_struck Inv := by
  intro σ a1 a2 hok hI h1 h2
  apply ps_of
  have hI2 := hI
  obtain ⟨k1, k2, k3, k4, k5, k6, k7, k8, k9, k10, k11⟩ := hI2
  have hB := k7
  have b0 := k7.1
  have hq := inv_thr (x := 0) hI
  have ts := k1.1
  clear k2 k3 k4 k5 k6 k8 k9 k10 k11
  simp only [m_X11_struck, isKnow_eq, isFactOf_eq (show σ 30 5 ≤ 150 by omega), Option.bind_some]
  by_cases hn : 0 ≤ a2 ∧ a2 ≤ σ 30 5
  · simp only [if_pos hn, Int.reduceEq, if_false]
    by_cases hf : 0 ≤ a1 ∧ a1 < a2 ∧ a1 < σ 30 5
    · simp only [if_pos hf, Int.reduceEq, if_false]
      rw [Hp_bind]
      refine Hp_mono (look_sp hB (by omega) hn) ?_
      intro σ1 hl
      obtain ⟨f, rfl⟩ := Int.eq_ofNat_of_zero_le hf.1
      have l1 := hl.2.2.1 f (by omega)
      rw [rd_ok (by omega) (by omega)]
      simp only [Option.bind_some, Int.toNat_natCast]
      have hI1 := inv_look hI hl
      have hB1 : iBook (up σ1 170 0 0) := (inv_thr (x := 0) hI1).2.2.2.2.2.2.1
      have e1 : up σ1 170 0 0 30 5 = σ 30 5 := by rw [up_cell (by decide)]; exact hl.1 30 5 rfl
      have e2 : up σ1 170 0 0 195 = σ 195 := by rw [up_ne 195 (by decide)]; exact funext fun j => hl.1 195 j rfl
      have e3 : up σ1 170 0 0 196 = σ 196 := by rw [up_ne 196 (by decide)]; exact funext fun j => hl.1 196 j rfl
      have e4 : σ1 170 41 = σ 170 41 := hl.1 170 41 rfl
      obtain ⟨b, m1, m2, m3⟩ := m_isStruck_sp (σ := up σ1 170 0 0) (f := f) (n := a2) (by omega) (by omega)
      have hm : Hp (m_X12_struck f a2 σ1) (fun q => q.1 = b ∧ Inv q.2) := by
        simp only [m_X12_struck, m_isKnown_eq, pt, Option.bind_some]
        simp (disch := decide) only [up_eq, up_cell, up_slot, Int.toNat_natCast, true_and, and_true, eq_self]
        rw [e4]
        have hn2 : 0 ≤ a2 ∧ a2 ≤ σ 170 41 := by omega
        simp only [if_pos hn2, Int.reduceEq, if_false]
        rw [if_neg (by omega), if_pos (by omega), m1]
        simp only [Option.bind_some]
        rcases m2 with q | q
        · rw [if_pos q, Hp_some]; exact ⟨q.symm, inv_thr hI1⟩
        · rw [if_neg (by omega), Hp_some]; exact ⟨q.symm, inv_thr hI1⟩
      rw [strk_cg e2 e3] at m3
      by_cases hz : σ1 36 f = 0
      · rw [if_pos hz, Hp_some]
        refine Hp_mono hm ?_
        rintro ⟨y, σ2⟩ ⟨g1, g2⟩
        refine ⟨?_, g2⟩
        simp only at g1 ⊢
        have : ¬ b = 1 := fun q => by have := l1.2.mpr (m3.mp q); omega
        omega
      · rw [if_neg hz, Hp_some]
        refine Hp_mono hm ?_
        rintro ⟨y, σ2⟩ ⟨g1, g2⟩
        refine ⟨?_, g2⟩
        simp only at g1 ⊢
        have : b = 1 := m3.mpr (l1.2.mp (by omega))
        omega
    · simp only [if_neg hf, if_true, Hp_some]
      simp only [m_X12_struck, m_isKnown_eq, pt, Option.bind_some]
      simp (disch := decide) only [up_eq, up_cell, up_slot, Int.toNat_natCast, true_and, and_true, eq_self]
      have hn2 : 0 ≤ a2 ∧ a2 ≤ σ 170 41 := by omega
      simp only [if_pos hn2, Int.reduceEq, if_false]
      by_cases h3 : a1 < 0
      · rw [if_pos h3, Hp_some]; exact ⟨rfl, hq⟩
      · rw [if_neg h3, if_neg (by omega), Hp_some]; exact ⟨rfl, hq⟩
  · simp only [if_neg hn, if_true, Hp_some]
    simp only [m_X12_struck, m_isKnown_eq, pt, Option.bind_some]
    simp (disch := decide) only [up_eq, up_cell, up_slot, Int.toNat_natCast, true_and, and_true, eq_self]
    have hn2 : ¬ (0 ≤ a2 ∧ a2 ≤ σ 170 41) := by omega
    simp only [if_neg hn2, if_true, Hp_some]
    exact ⟨by trivial, hq⟩
