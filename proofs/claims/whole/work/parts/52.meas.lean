/-! the model's reckoning of distances -/
theorem town_way {σ : St} (hT : iTown σ) {w : Nat} (hw : (w : Int) < σ 1 5) : ∃ a b : Nat, ∃ l : Int, σ 2 w = a ∧ σ 3 w = b ∧ σ 4 w = l ∧ σ 187 w = a ∧ σ 188 w = b ∧ σ 189 w = l ∧ a < 10 ∧ b < 10 ∧ a ≠ b ∧ 1 ≤ l ∧ l ≤ 9 ∧ (a : Int) < σ 1 4 ∧ (b : Int) < σ 1 4 := by
  obtain ⟨t1, t2, t3⟩ := hT
  obtain ⟨h1, h2, h3, h4, h5, h6⟩ := t3 w hw
  obtain ⟨a, ha⟩ := Int.eq_ofNat_of_zero_le h2.1
  obtain ⟨b, hb⟩ := Int.eq_ofNat_of_zero_le h3.1
  exact ⟨a, b, σ 4 w, ha, hb, rfl, by omega, by omega, by omega, by omega, by omega, by omega, h5, h6, by omega, by omega⟩
theorem town_isE {σ : St} (hT : iTown σ) {n : Int} (hn : n ≤ σ 1 5) : isE (Edge σ n) := by
  rintro x y m ⟨w, h1, h2, h3⟩
  obtain ⟨a, b, l, e1, e2, e3, -, -, -, h4, h5, h6, h7, h8, -⟩ := town_way hT (w := w) (by omega)
  refine ⟨by omega, by omega, by omega, by omega, w, h1, h2, by omega⟩
theorem edge_succ {σ : St} {j a b : Nat} {l : Int} (h2 : σ 2 j = a) (h3 : σ 3 j = b) (h4 : σ 4 j = l) (x y : Nat) (m : Int) : Edge σ ((j + 1 : Nat) : Int) x y m ↔ Emore (Edge σ (j : Int)) a b l x y m := by
  unfold Emore
  constructor
  · rintro ⟨w, g1, g2, g3⟩
    by_cases hw : w = j
    · subst hw; right; omega
    · left; exact ⟨w, by omega, g2, g3⟩
  · rintro (⟨w, g1, g2, g3⟩ | ⟨g1, g2⟩)
    · exact ⟨w, by omega, g2, g3⟩
    · exact ⟨j, by omega, by omega, by omega⟩
def isDir (E : Nat → Nat → Int → Prop) (D : Nat → Nat → Int) : Prop := ∀ a b, a < 10 → b < 10 → (D a b = 1000 ∨ E a b (D a b)) ∧ D a b ≤ 1000 ∧ (∀ l, E a b l → D a b ≤ l) ∧ D a b = D b a
theorem Dir_step {E : Nat → Nat → Int → Prop} {D D' : Nat → Nat → Int} {A B : Nat} {l : Int} (hD : isDir E D) (hA : A < 10) (hB : B < 10) (hl : l ≤ 9) (h' : ∀ a b, a < 10 → b < 10 → D' a b = if l < D A B ∧ ((a = A ∧ b = B) ∨ (a = B ∧ b = A)) then l else D a b) : isDir (Emore E A B l) D' := by
  intro a b ha hb
  obtain ⟨h1, h2, h3, h4⟩ := hD a b ha hb
  obtain ⟨g1, g2, g3, g4⟩ := hD A B hA hB
  rw [h' a b ha hb, h' b a hb ha]
  by_cases hc : l < D A B ∧ ((a = A ∧ b = B) ∨ (a = B ∧ b = A))
  · rw [if_pos hc, if_pos (by omega)]
    refine ⟨Or.inr (Or.inr ⟨rfl, hc.2⟩), by omega, ?_, rfl⟩
    rintro m (he | ⟨rfl, -⟩)
    · rcases hc.2 with ⟨rfl, rfl⟩ | ⟨rfl, rfl⟩
      · have := h3 m he; omega
      · have := h3 m he; omega
    · exact Int.le_refl _
  · rw [if_neg hc, if_neg (by omega)]
    refine ⟨?_, h2, ?_, h4⟩
    · rcases h1 with q | q
      · exact Or.inl q
      · exact Or.inr (Or.inl q)
    · rintro m (he | ⟨rfl, hq⟩)
      · exact h3 m he
      · rcases hq with ⟨rfl, rfl⟩ | ⟨rfl, rfl⟩
        · omega
        · omega
/-- what measures leaves -/
def MeasP (σ σ' : St) : Prop := Wr ([(193, 194)], []) σ σ' ∧ isDM (Edge σ (σ 1 5)) (fun a b => σ' 194 (10 * a + b)) ∧ isDir (Edge σ (σ 1 5)) (fun a b => σ' 193 (10 * a + b))
theorem meas_dir {σ τ0 : St} (hT : iTown σ) (hw : Wr ([(193, 193)], []) σ τ0) (hz : ∀ j : Nat, j < 100 → τ0 193 j = 1000) : Hp (lp (fun a => m_X12_measures_L25 a.1 a.2) (0, τ0)) (fun τ => Wr ([(193, 193)], []) σ τ ∧ isDir (Edge σ (σ 1 5)) (fun a b => τ 193 (10 * a + b))) := by
  have t := hT.2.1
  refine Hp_up (fun j (a : Int × St) => a.1 = (j : Int) ∧ Wr ([(193, 193)], []) σ a.2 ∧ isDir (Edge σ (j : Int)) (fun x y => a.2 193 (10 * x + y))) 0 (σ 1 5).toNat (by omega) (by omega) ⟨rfl, hw, ?_⟩ ?_ ?_
  · intro a b ha hb
    simp only
    rw [hz _ (by omega), hz _ (by omega)]
    refine ⟨Or.inl rfl, by omega, ?_, rfl⟩
    rintro l ⟨w, h1, -⟩
    omega
  · rintro j ⟨x, τ⟩ - h2 ⟨e1, e2, e3⟩
    simp only at e1 e2 e3
    subst e1
    obtain ⟨A, B, l, g2, g3, g4, g187, g188, g189, hA, hB, hAB, hl1, hl9, -⟩ := town_way hT (w := j) (by omega)
    have f1 : τ 170 31 = σ 1 5 := (e2 170 31 rfl).trans t.1
    have f2 : τ 187 j = A := (e2 187 j rfl).trans g187
    have f3 : τ 188 j = B := (e2 188 j rfl).trans g188
    have f4 : τ 189 j = l := (e2 189 j rfl).trans g189
    simp only [m_X12_measures_L25]
    rw [if_neg (by omega), rd_ok (by omega) (by omega), bnd_s, rd_ok (by omega) (by omega), bnd_s, rd_ok (by omega) (by omega), bnd_s]
    simp only [Int.toNat_natCast]
    rw [f2, f3, f4, wr_id' (x := 10 * (A : Int)) (by omega) (by omega), wr_id' (x := 10 * (A : Int) + (B : Int)) (by omega) (by omega), rd_ok (by omega) (by omega), bnd_s, show (10 * (A : Int) + (B : Int)).toNat = 10 * A + B by omega]
    have hnx : wr ((j : Int) + 1) = ((j + 1 : Nat) : Int) := by rw [wr_id' (by omega) (by omega)]; omega
    have hdir : ∀ D' : Nat → Nat → Int, (∀ a b, a < 10 → b < 10 → D' a b = if l < τ 193 (10 * A + B) ∧ ((a = A ∧ b = B) ∨ (a = B ∧ b = A)) then l else τ 193 (10 * a + b)) → isDir (Edge σ ((j + 1 : Nat) : Int)) D' := by
      intro D' h'
      have hs := Dir_step e3 hA hB hl9 h'
      have hE : Edge σ ((j + 1 : Nat) : Int) = Emore (Edge σ (j : Int)) A B l := by
        funext x y m
        exact propext (edge_succ g2 g3 g4 x y m)
      rw [hE]; exact hs
    by_cases hc : τ 193 (10 * A + B) ≤ l
    · rw [if_pos hc, Hp_some, Lq_inl, hnx]
      refine ⟨rfl, e2, hdir _ ?_⟩
      intro a b ha hb
      rw [if_neg (by omega)]
    · rw [if_neg hc, bnd_s, bnd_s, bnd_s, wr_id' (x := 10 * (A : Int)) (by omega) (by omega), wr_id' (x := 10 * (A : Int) + (B : Int)) (by omega) (by omega), Hp_bind, Hp_wt]
      refine ⟨by omega, ?_⟩
      rw [show (10 * (A : Int) + (B : Int)).toNat = 10 * A + B by omega]
      rw [rd_ok (by omega) (by omega), bnd_s, rd_ok (by omega) (by omega), bnd_s, rd_ok (by omega) (by omega), bnd_s]
      simp only [Int.toNat_natCast]
      simp (disch := decide) only [up_eq, up_cell, up_slot, Int.toNat_natCast, true_and, and_true, eq_self]
      rw [f2, f3, f4, wr_id' (x := 10 * (B : Int)) (by omega) (by omega), wr_id' (x := 10 * (B : Int) + (A : Int)) (by omega) (by omega), Hp_bind, Hp_wt]
      refine ⟨by omega, ?_⟩
      rw [show (10 * (B : Int) + (A : Int)).toNat = 10 * B + A by omega, Hp_some, Lq_inl, hnx]
      refine ⟨rfl, Wr_up (Wr_up e2 rfl) rfl, hdir _ ?_⟩
      intro a b ha hb
      simp only
      by_cases h1 : a = B ∧ b = A
      · rw [if_pos (by omega), show 10 * a + b = 10 * B + A by omega, up_eq]
      · rw [up_slot (by omega)]
        by_cases h3 : a = A ∧ b = B
        · rw [if_pos (by omega), show 10 * a + b = 10 * A + B by omega, up_eq]
        · rw [up_slot (by omega), if_neg (by omega)]
  · rintro ⟨x, τ⟩ ⟨e1, e2, e3⟩
    simp only at e1 e2 e3
    subst e1
    have f1 : τ 170 31 = σ 1 5 := (e2 170 31 rfl).trans t.1
    simp only [m_X12_measures_L25]
    rw [if_pos (by omega), Hp_some, Lq_inr]
    rw [show ((σ 1 5).toNat : Int) = σ 1 5 by omega] at e3
    exact ⟨e2, e3⟩
theorem rem11 : ∀ i : Fin 100, remI (i.val : Int) 11 = some ((i.val % 11 : Nat) : Int) := by decide
theorem meas_init {τ0 : St} : Hp (lp (fun a => m_X12_measures_L125 a.1 a.2) (0, τ0)) (fun τ => Wr ([(194, 194)], []) τ0 τ ∧ ∀ i : Nat, i < 100 → τ 194 i = if i % 11 = 0 then 0 else τ0 193 i) := by
  refine Hp_up (fun j (a : Int × St) => a.1 = (j : Int) ∧ Wr ([(194, 194)], []) τ0 a.2 ∧ ∀ i : Nat, i < j → a.2 194 i = if i % 11 = 0 then 0 else τ0 193 i) 0 100 (by omega) (by omega) ⟨rfl, Wr_rf, fun i h => absurd h (by omega)⟩ ?_ ?_
  · rintro j ⟨x, τ⟩ - h2 ⟨e1, e2, e3⟩
    simp only at e1 e2 e3
    subst e1
    have hnx : wr ((j : Int) + 1) = ((j + 1 : Nat) : Int) := by rw [wr_id' (by omega) (by omega)]; omega
    have f1 : τ 193 j = τ0 193 j := e2 193 j rfl
    simp only [m_X12_measures_L125]
    rw [if_neg (by omega), rem11 ⟨j, h2⟩, bnd_s]
    by_cases hc : j % 11 = 0
    · rw [if_pos (by simp only; omega), Hp_bind, Hp_wt]
      refine ⟨by omega, ?_⟩
      rw [Hp_some, Lq_inl, hnx]
      refine ⟨rfl, Wr_up e2 rfl, ?_⟩
      intro i hi
      simp only [Int.toNat_natCast]
      by_cases hij : i = j
      · subst hij; rw [up_eq, if_pos hc]
      · rw [up_slot hij]; exact e3 i (by omega)
    · rw [if_neg (by simp only; omega), rd_ok (by omega) (by omega), bnd_s, Hp_bind, Hp_wt]
      refine ⟨by omega, ?_⟩
      rw [Hp_some, Lq_inl, hnx]
      refine ⟨rfl, Wr_up e2 rfl, ?_⟩
      intro i hi
      simp only [Int.toNat_natCast]
      by_cases hij : i = j
      · subst hij; rw [up_eq, if_neg hc, f1]
      · rw [up_slot hij]; exact e3 i (by omega)
  · rintro ⟨x, τ⟩ ⟨e1, e2, e3⟩
    simp only at e1 e2 e3
    subst e1
    simp only [m_X12_measures_L125]
    rw [if_pos (by omega), Hp_some, Lq_inr]
    exact ⟨e2, e3⟩
theorem meas_b {τ0 : St} {k a : Nat} {O : Nat → Nat → Int} (hk : k < 10) (ha : a < 10) (hO : ∀ x y, x < 10 → y < 10 → 0 ≤ O x y ∧ O x y ≤ 1000) (hkk : O k k = 0) (h0 : ∀ x y, x < 10 → y < 10 → τ0 194 (10 * x + y) = if x < a then Nx O k x y else O x y) :
    Hp (lp (fun z => m_X12_measures_L178 (a : Int) (k : Int) z.1 z.2) (0, τ0)) (fun τ => Wr ([(194, 194)], []) τ0 τ ∧ ∀ x y, x < 10 → y < 10 → τ 194 (10 * x + y) = if x < a + 1 then Nx O k x y else O x y) := by
  refine Hp_up (fun j (z : Int × St) => z.1 = (j : Int) ∧ Wr ([(194, 194)], []) τ0 z.2 ∧ ∀ x y, x < 10 → y < 10 → z.2 194 (10 * x + y) = if x < a ∨ (x = a ∧ y < j) then Nx O k x y else O x y) 0 10 (by omega) (by omega) ⟨rfl, Wr_rf, ?_⟩ ?_ ?_
  · intro x y hx hy
    simp only
    rw [h0 x y hx hy]
    by_cases hc : x < a
    · rw [if_pos hc, if_pos (by omega)]
    · rw [if_neg hc, if_neg (by omega)]
  · rintro j ⟨x, τ⟩ - h2 ⟨e1, e2, e3⟩
    simp only at e1 e2 e3
    subst e1
    have hnx : wr ((j : Int) + 1) = ((j + 1 : Nat) : Int) := by rw [wr_id' (by omega) (by omega)]; omega
    have o1 := hO a k ha hk
    have o2 := hO k j hk h2
    have o3 := hO a j ha h2
    have v1 : τ 194 (10 * a + k) = O a k := by
      rw [e3 a k ha hk]; split
      · unfold Nx; omega
      · rfl
    have v2 : τ 194 (10 * k + j) = O k j := by
      rw [e3 k j hk h2]; split
      · unfold Nx; omega
      · rfl
    have v3 : τ 194 (10 * a + j) = O a j := by
      rw [e3 a j ha h2, if_neg (by omega)]
    simp only [m_X12_measures_L178]
    rw [if_neg (by omega), wr_id' (x := 10 * (a : Int)) (by omega) (by omega), wr_id' (x := 10 * (a : Int) + (k : Int)) (by omega) (by omega), wr_id' (x := 10 * (k : Int)) (by omega) (by omega), wr_id' (x := 10 * (k : Int) + (j : Int)) (by omega) (by omega), wr_id' (x := 10 * (a : Int) + (j : Int)) (by omega) (by omega), rd_ok (by omega) (by omega), bnd_s, rd_ok (by omega) (by omega), bnd_s, rd_ok (by omega) (by omega), bnd_s, show (10 * (a : Int) + (k : Int)).toNat = 10 * a + k by omega, show (10 * (k : Int) + (j : Int)).toNat = 10 * k + j by omega, show (10 * (a : Int) + (j : Int)).toNat = 10 * a + j by omega, v1, v2, v3, wr_id' (x := O a k + O k j) (by omega) (by omega)]
    by_cases hc : O a j ≤ O a k + O k j
    · rw [if_pos hc, Hp_some, Lq_inl, hnx]
      refine ⟨rfl, e2, ?_⟩
      intro x y hx hy
      simp only
      rw [e3 x y hx hy]
      by_cases hxy : x = a ∧ y = j
      · obtain ⟨rfl, rfl⟩ := hxy
        rw [if_neg (by omega), if_pos (by omega)]
        unfold Nx; omega
      · by_cases h3 : x < a ∨ (x = a ∧ y < j)
        · rw [if_pos h3, if_pos (by omega)]
        · rw [if_neg h3, if_neg (by omega)]
    · rw [if_neg hc]
      rw [bnd_s, bnd_s, wr_id' (x := O a k + O k j) (by omega) (by omega), Hp_bind, Hp_wt]
      refine ⟨by omega, ?_⟩
      rw [show (10 * (a : Int) + (j : Int)).toNat = 10 * a + j by omega, Hp_some, Lq_inl, hnx]
      refine ⟨rfl, Wr_up e2 rfl, ?_⟩
      intro x y hx hy
      simp only
      by_cases hxy : x = a ∧ y = j
      · obtain ⟨rfl, rfl⟩ := hxy
        rw [up_eq, if_pos (by omega)]
        unfold Nx; omega
      · rw [up_slot (by omega), e3 x y hx hy]
        by_cases h3 : x < a ∨ (x = a ∧ y < j)
        · rw [if_pos h3, if_pos (by omega)]
        · rw [if_neg h3, if_neg (by omega)]
  · rintro ⟨x, τ⟩ ⟨e1, e2, e3⟩
    simp only at e1 e2 e3
    subst e1
    simp only [m_X12_measures_L178]
    rw [if_pos (by omega), Hp_some, Lq_inr]
    refine ⟨e2, ?_⟩
    intro x y hx hy
    rw [e3 x y hx hy]
    by_cases h3 : x < a + 1
    · rw [if_pos (by omega), if_pos h3]
    · rw [if_neg (by omega), if_neg h3]
theorem meas_a {τ0 : St} {k : Nat} {O : Nat → Nat → Int} (hk : k < 10) (hO : ∀ x y, x < 10 → y < 10 → 0 ≤ O x y ∧ O x y ≤ 1000) (hkk : O k k = 0) (h0 : ∀ x y, x < 10 → y < 10 → τ0 194 (10 * x + y) = O x y) :
    Hp (lp (fun z => m_X12_measures_L170 (k : Int) z.1 z.2) (0, τ0)) (fun τ => Wr ([(194, 194)], []) τ0 τ ∧ ∀ x y, x < 10 → y < 10 → τ 194 (10 * x + y) = Nx O k x y) := by
  refine Hp_up (fun j (z : Int × St) => z.1 = (j : Int) ∧ Wr ([(194, 194)], []) τ0 z.2 ∧ ∀ x y, x < 10 → y < 10 → z.2 194 (10 * x + y) = if x < j then Nx O k x y else O x y) 0 10 (by omega) (by omega) ⟨rfl, Wr_rf, ?_⟩ ?_ ?_
  · intro x y hx hy
    simp only
    rw [h0 x y hx hy, if_neg (by omega)]
  · rintro j ⟨x, τ⟩ - h2 ⟨e1, e2, e3⟩
    simp only at e1 e2 e3
    subst e1
    have hnx : wr ((j : Int) + 1) = ((j + 1 : Nat) : Int) := by rw [wr_id' (by omega) (by omega)]; omega
    simp only [m_X12_measures_L170]
    rw [if_neg (by omega), Hp_bind]
    refine Hp_mono (meas_b hk h2 hO hkk e3) ?_
    rintro τ' ⟨w1, w2⟩
    rw [Hp_some, Lq_inl, hnx]
    exact ⟨rfl, Wr_tr e2 w1, w2⟩
  · rintro ⟨x, τ⟩ ⟨e1, e2, e3⟩
    simp only at e1 e2 e3
    subst e1
    simp only [m_X12_measures_L170]
    rw [if_pos (by omega), Hp_some, Lq_inr]
    refine ⟨e2, ?_⟩
    intro x y hx hy
    rw [e3 x y hx hy, if_pos (by omega)]
theorem meas_k {E : Nat → Nat → Int → Prop} {D : Nat → Nat → Int} {τ0 : St} (h0 : isPh E D (fun x y => τ0 194 (10 * x + y)) 0) :
    Hp (lp (fun z => m_X12_measures_L162 z.1 z.2) (0, τ0)) (fun τ => Wr ([(194, 194)], []) τ0 τ ∧ isPh E D (fun x y => τ 194 (10 * x + y)) 10) := by
  refine Hp_up (fun j (z : Int × St) => z.1 = (j : Int) ∧ Wr ([(194, 194)], []) τ0 z.2 ∧ isPh E D (fun x y => z.2 194 (10 * x + y)) j) 0 10 (by omega) (by omega) ⟨rfl, Wr_rf, h0⟩ ?_ ?_
  · rintro j ⟨x, τ⟩ - h2 ⟨e1, e2, e3⟩
    simp only at e1 e2 e3
    subst e1
    have hnx : wr ((j : Int) + 1) = ((j + 1 : Nat) : Int) := by rw [wr_id' (by omega) (by omega)]; omega
    simp only [m_X12_measures_L162]
    rw [if_neg (by omega), Hp_bind]
    refine Hp_mono (meas_a (O := fun x y => τ 194 (10 * x + y)) h2 (fun x y hx hy => ⟨(e3.1 x y hx hy).1, (e3.1 x y hx hy).2.1⟩) (e3.2.1 j h2) (fun x y hx hy => rfl)) ?_
    rintro τ' ⟨w1, w2⟩
    rw [Hp_some, Lq_inl, hnx]
    refine ⟨rfl, Wr_tr e2 w1, ?_⟩
    have hp := Nx_ph h2 e3
    obtain ⟨p1, p2, p3, p4⟩ := hp
    refine ⟨?_, ?_, ?_, ?_⟩
    · intro a b ha hb; simp only; rw [w2 a b ha hb]; exact p1 a b ha hb
    · intro a ha; simp only; rw [w2 a a ha ha]; exact p2 a ha
    · intro i a b hi hi10 ha hb; simp only; rw [w2 a b ha hb, w2 a i ha hi10, w2 i b hi10 hb]; exact p3 i a b hi hi10 ha hb
    · intro a b ha hb hlt; simp only at hlt ⊢; rw [w2 a b ha hb] at hlt ⊢; exact p4 a b ha hb hlt
  · rintro ⟨x, τ⟩ ⟨e1, e2, e3⟩
    simp only at e1 e2 e3
    subst e1
    simp only [m_X12_measures_L162]
    rw [if_pos (by omega), Hp_some, Lq_inr]
    exact ⟨e2, e3⟩
theorem q_e (j : Int) (τ : St) : m_X12_measures_L2 j τ = if (100 : Int) ≤ j then some (.inr τ) else (wt τ 193 100 j 1000).bind fun τ' => some (.inl (wr (j + 1), τ')) := by rw [m_X12_measures_L2]
theorem meas_s {σ τ1 τ2 τ3 τ4 : St} (o1 : lp (fun a => m_X12_measures_L2 a.1 a.2) (0, σ) = some τ1) (o2 : lp (fun a => m_X12_measures_L25 a.1 a.2) (0, τ1) = some τ2) (o3 : lp (fun a => m_X12_measures_L125 a.1 a.2) (0, τ2) = some τ3) (o4 : lp (fun a => m_X12_measures_L162 a.1 a.2) (0, τ3) = some τ4) : m_X12_measures σ = some τ4 := by
  rw [m_X12_measures, o1, bnd_s, o2, bnd_s, o3, bnd_s, o4, bnd_s]
theorem meas_sp {σ : St} (hT : iTown σ) : Hp (m_X12_measures σ) (fun σ' => MeasP σ σ') := by
  obtain ⟨τ1, o1, w1, z1⟩ := fill_sp (f := fun a => m_X12_measures_L2 a.1 a.2) (σ := σ) (c := 193) (N := 100) (NI := 100) (v := 1000) (by omega) (by omega) q_e
  obtain ⟨τ2, o2, w2, d2⟩ := meas_dir hT w1 z1
  obtain ⟨τ3, o3, w3, d3⟩ := meas_init (τ0 := τ2)
  have hE := town_isE hT (Int.le_refl (σ 1 5))
  have e193 : ∀ j, τ3 193 j = τ2 193 j := fun j => w3 193 j rfl
  have dv : ∀ a b, a < 10 → b < 10 → 0 ≤ τ2 193 (10 * a + b) := by
    intro a b ha hb
    have := (d2 a b ha hb).1
    simp only at this
    rcases this with q | q
    · omega
    · have := hE _ _ _ q; omega
  have hph : isPh (Edge σ (σ 1 5)) (fun x y => τ2 193 (10 * x + y)) (fun x y => τ3 194 (10 * x + y)) 0 := by
    refine ⟨?_, ?_, fun j a b hj => absurd hj (by omega), ?_⟩
    · intro a b ha hb
      simp only
      rw [d3 _ (by omega)]
      have i1 := dv a b ha hb
      have i2 := (d2 a b ha hb).2.1
      simp only at i2
      split <;> omega
    · intro a ha
      simp only
      rw [d3 _ (by omega), if_pos (by omega)]
    · intro a b ha hb hlt
      simp only at hlt ⊢
      rw [d3 _ (by omega)] at hlt ⊢
      by_cases hab : a = b
      · subst hab
        rw [if_pos (by omega)]
        exact ⟨0, rfl, rfl⟩
      · rw [if_neg (by omega)] at hlt ⊢
        have := (d2 a b ha hb).1
        simp only at this
        rcases this with q | q
        · omega
        · exact ⟨1, walk_one q⟩
  obtain ⟨τ4, o4, w4, p4⟩ := meas_k hph
  refine ⟨τ4, meas_s o1 o2 o3 o4, Wr_tr (Wr_sb w2 rfl) (Wr_tr (Wr_sb w3 rfl) (Wr_sb w4 rfl)), Ph_dm p4 ?_, ?_⟩
  · intro a x l ha hx he
    exact (d2 a x ha hx).2.2.1 l he
  · intro a b ha hb
    simp only
    rw [w4 193 _ rfl, w4 193 _ rfl, e193, e193]
    exact d2 a b ha hb
theorem inv_meas {σ σ' : St} (hI : Inv σ) (h : MeasP σ σ') : Inv σ' := by
  refine inv_step (L := ([(193, 194)], [])) hI ?_ (Or.inl (by decide +kernel)) (Or.inl (by decide +kernel)) (Or.inl (by decide +kernel)) (Or.inl (by decide +kernel)) (Or.inl (by decide +kernel)) (Or.inl (by decide +kernel)) (Or.inl (by decide +kernel)) (Or.inl (by decide +kernel)) (Or.inl (by decide +kernel)) (Or.inl (by decide +kernel)) (Or.inl (by decide +kernel))
  exact h.1
theorem near_eq {σ σ' : St} (hT : iTown σ) (hN : iNear σ) (h : MeasP σ σ') {a b : Nat} (ha : a < 10) (hb : b < 10) : σ' 194 (10 * a + b) = nM σ a b :=
  dm_uniq (town_isE hT (Int.le_refl _)) h.2.1 hN.1 ha hb
theorem lenB_eq {σ : St} {a b : Int} (h : σ 1 4 ≤ 10) : m_X10_lengthBetween a b σ = some (if (0 ≤ a ∧ a < σ 1 4) ∧ (0 ≤ b ∧ b < σ 1 4) then σ (6 + a.toNat) b.toNat else -1) := by
  unfold m_X10_lengthBetween m_X10_lengthBetween_J28
  by_cases h1 : a < 0
  · rw [if_pos h1, if_neg (by omega)]
  · rw [if_neg h1]
    by_cases h2 : σ 1 4 ≤ a
    · rw [if_pos h2, if_neg (by omega)]
    · rw [if_neg h2]
      by_cases h3 : b < 0
      · rw [if_pos h3, if_neg (by omega)]
      · rw [if_neg h3]
        by_cases h4 : σ 1 4 ≤ b
        · rw [if_pos h4, if_neg (by omega)]
        · rw [if_neg h4, rr_ok (by omega) (by omega), bnd_s, rd_ok (by omega) (by omega), bnd_s, rf_near (by omega), if_pos (by omega)]
theorem c_distance : PS_distance Inv := by
  intro σ a1 a2 hok hI h1 h2
  apply pq_of
  have hI2 := hI
  obtain ⟨k1, k2, k3, k4, k5, k6, k7, k8, k9, k10, k11⟩ := hI2
  have hq := inv_thr (x := 0) hI
  obtain ⟨⟨t1, t2, t3⟩, -, -⟩ := k1
  rw [m_X11_distance, lenB_eq t3]
  simp only [bnd_s, Hp_some, m_X12_distance, Hp_bind, Hp_pt, m_isSpot_eq]
  simp (disch := decide) only [up_eq, up_cell, up_slot, Int.toNat_natCast, true_and, and_true, eq_self]
  rw [t1]
  by_cases c1 : 0 ≤ a1 ∧ a1 < σ 1 4
  · by_cases c2 : 0 ≤ a2 ∧ a2 < σ 1 4
    · simp only [if_pos c1, if_pos c2, Int.reduceEq, if_false, Hp_bind]
      rw [if_pos ⟨c1, c2⟩]
      obtain ⟨a, rfl⟩ := Int.eq_ofNat_of_zero_le c1.1
      obtain ⟨b, rfl⟩ := Int.eq_ofNat_of_zero_le c2.1
      refine Hp_mono (meas_sp hq.1) ?_
      intro σ' hm
      have e := near_eq hq.1 hq.2.1 hm (a := a) (b := b) (by omega) (by omega)
      have v := k2.2 a b (by omega) (by omega)
      have e2 : nM (up σ 170 0 0) a b = nM σ a b := by
        unfold nM
        rw [up_cell (by omega)]
      rw [e2] at e
      rw [wr_id' (x := 10 * (a : Int)) (by omega) (by omega), wr_id' (x := 10 * (a : Int) + (b : Int)) (by omega) (by omega), Hp_rd]
      refine ⟨by omega, ?_⟩
      rw [show (10 * (a : Int) + (b : Int)).toNat = 10 * a + b by omega, e]
      simp only [Int.toNat_natCast]
      by_cases hn : σ (6 + a) b = -1
      · have : nM σ a b = 1000 := by unfold nM; rw [if_pos hn]
        rw [this, if_pos (by decide), Hp_some, hn]
        exact ⟨rfl, inv_meas hq hm⟩
      · have : nM σ a b = σ (6 + a) b := by unfold nM; rw [if_neg hn]
        rw [this, if_neg (by omega), rd_ok (by omega) (by omega), bnd_s, Hp_some]
        rw [show (10 * (a : Int) + (b : Int)).toNat = 10 * a + b by omega, e, this]
        exact ⟨rfl, inv_meas hq hm⟩
    · simp only [if_pos c1, if_neg c2, Int.reduceEq, if_false, if_true, Hp_some]
      rw [if_neg (by omega)]
      exact ⟨by trivial, hq⟩
  · simp only [if_neg c1, if_true, Hp_some]
    rw [if_neg (by omega)]
    exact ⟨by trivial, hq⟩
