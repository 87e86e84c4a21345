/-! the beginning of a run: the class's side whole -/
/-- what the class's beginning leaves: A agents -/
def BegC (σ : St) (n : Int) (A : Nat) (τ : St) : Prop := (∀ k j, ¬ RunC k j → ¬ (k = 36 ∨ k = 37 ∨ (k = 30 ∧ j = 6) ∨ (k = 129 ∧ (j = 0 ∨ j = 1))) → τ k j = σ k j) ∧ (τ 129 0 = 1 ∧ τ 129 1 = (A : Int) ∧ τ 129 6 = 0 ∧ τ 129 13 = 0) ∧
  (∀ t s : Nat, t < 96 → (tb (τ 37 t) s = true ↔ Wtch σ n s t)) ∧ (∀ s : Nat, s < 10 → τ 130 s = 0 ∧ τ 131 s = 0) ∧
  (∀ b e : Nat, b < 8 → e < 8 → τ (133 + b) e = -1) ∧ (∀ b : Nat, A ≤ b → b < 8 → τ (39 + 7 * b) 6 = -1 ∧ ∀ t : Nat, t < 96 → τ (43 + 7 * b) t = -1) ∧ ∀ b : Nat, b < A → FrE b τ
theorem own_run {b k j : Nat} (hb : b < 8) (h : Own1 b k j) : RunC k j := by
  unfold Own1 at h
  unfold RunC
  omega
theorem perf_31 {A : Nat} {τ : St} (hA : A ≤ 8) (h0 : ∀ b : Nat, b < 8 → Fr0 b τ) (h8 : τ 22 8 ≤ 8) (hk : ∀ b : Nat, b < A → (-1 ≤ τ (39 + 7 * b) 2 ∧ τ (39 + 7 * b) 2 < τ 22 8)) (h29 : ∀ c : Nat, (c : Int) < τ 22 8 → 0 ≤ τ 29 c) :
    Hp (lp (fun a => m_X8_perform_L31 (A : Int) a.1 a.2) (0, τ)) (fun τ' => (∀ k j, (∀ b, b < A → ¬ Own1 b k j) → τ' k j = τ k j) ∧ (∀ b : Nat, A ≤ b → b < 8 → Fr0 b τ') ∧ ∀ b : Nat, b < A → FrE b τ') := by
  refine Hp_up (fun m (z : Int × St) => z.1 = (m : Int) ∧ (∀ k j, (∀ b, b < m → ¬ Own1 b k j) → z.2 k j = τ k j) ∧ (∀ b : Nat, m ≤ b → b < 8 → Fr0 b z.2) ∧ ∀ b : Nat, b < m → FrE b z.2) 0 A (by omega) (by omega) ⟨rfl, fun _ _ _ => rfl, fun b _ hb => h0 b hb, fun b hb => by omega⟩ ?_ ?_
  · rintro m ⟨x, σ⟩ - hm ⟨e1, e2, e3, e4⟩
    simp only at e1 e2 e3 e4
    subst e1
    have m8 : m < 8 := by omega
    have own : ∀ k j, ¬ (39 ≤ k ∧ k ≤ 94 ∧ ((3 < j ∧ j ≤ 18) ∨ (k - 39) % 7 ≠ 0)) → σ k j = τ k j := fun k j n => e2 k j (fun b hb hO => n (by unfold Own1 at hO; omega))
    have v2 : σ (39 + 7 * m) 2 = τ (39 + 7 * m) 2 := own _ _ (by omega)
    have v22 : σ 22 8 = τ 22 8 := own _ _ (by omega)
    have v29 : σ 29 = τ 29 := funext fun j => own _ _ (by omega)
    obtain ⟨k1, k2⟩ := hk m hm
    simp only [m_X8_perform_L31]
    rw [if_neg (by omega), rr_ok (by omega) (by omega), bnd_s, Int.toNat_natCast, rf_ag m8, bnd_s, v2]
    have hfs : ∃ y, m_X5_firstStep 22 (τ (39 + 7 * m) 2) σ = some y ∧ ((σ (39 + 7 * m) 2 = -1 ∧ y = -1) ∨ (∃ c : Nat, σ (39 + 7 * m) 2 = (c : Int) ∧ y = σ 29 c ∧ y ≠ -1)) := by
      by_cases hz : τ (39 + 7 * m) 2 = -1
      · refine ⟨-1, ?_, Or.inl ⟨by rw [v2]; exact hz, rfl⟩⟩
        rw [m_X5_firstStep, if_pos (by omega)]
      · obtain ⟨c, hc⟩ := Int.eq_ofNat_of_zero_le (show 0 ≤ τ (39 + 7 * m) 2 by omega)
        have g := h29 c (by omega)
        refine ⟨τ 29 c, ?_, Or.inr ⟨c, by rw [v2]; exact hc, by rw [v29], by omega⟩⟩
        rw [m_X5_firstStep, hc, v22, if_neg (by omega), if_neg (by omega), if_neg (by omega), rd_ok (by omega) (by omega), bnd_s, Int.toNat_natCast]
        exact congrArg some (congrFun v29 c)
    obtain ⟨y, hy1, hy2⟩ := hfs
    rw [hy1, bnd_s, Hp_bind]
    refine Hp_mono (enter_sp (e3 m (Nat.le_refl _) m8) hy2) ?_
    rintro τ1 ⟨w1, w2⟩
    rw [Hp_some, Lq_inl, nx1 (by omega)]
    refine ⟨rfl, fun k j n => ?_, fun b hb1 hb2 => ?_, fun b hb => ?_⟩
    · simp only
      rw [w1 k j (n m (by omega))]
      exact e2 k j (fun b hb => n b (by omega))
    · simp only
      exact Fr0_cg (e3 b (by omega) hb2) (fun k j n1 n2 => w1 k j (by unfold Own1; omega))
    · simp only
      by_cases hbm : b = m
      · subst hbm; exact w2
      · exact FrE_cg (e4 b (by omega)) (fun k j n1 n2 => w1 k j (by unfold Own1; omega)) (funext fun j => w1 29 j (by unfold Own1; omega))
  · rintro ⟨x, σ⟩ ⟨e1, e2, e3, e4⟩
    simp only at e1 e2 e3 e4
    subst e1
    simp only [m_X8_perform_L31]
    rw [if_pos (by omega), Hp_some, Lq_inr]
    exact ⟨e2, e3, e4⟩
/-- the class's run: its beginning, then its ticks -/
theorem run_cls {σ : St} {n : Int} {A : Nat} (hI : Inv σ) (hn : 0 ≤ n ∧ n ≤ σ 30 5) (hA : σ 0 6 = (A : Int)) :
    ∃ τ, BegC σ n A τ ∧ m_X11_run n σ = (lp (fun a => m_X8_perform_L69 (A : Int) a.1 a.2) (0, τ)).bind fun σ35 => some (σ35 129 13, σ35) := by
  obtain ⟨k1, k2, k3, k4, k5, k6, k7, k8, k9, k10, k11⟩ := hI
  have a0 := k6.1
  have t0 := k1.1
  have A8 : A ≤ 8 := by omega
  obtain ⟨σ3, o3, hl⟩ := look_sp k7 (by omega) hn
  obtain ⟨hl1, hl2, hl3, hl4⟩ := hl
  have e06 : σ3 0 6 = (A : Int) := by rw [hl1 0 6 rfl, hA]
  obtain ⟨τ4, o4, c1, ⟨c2, c3⟩, c4, c5⟩ := clear_sp (τ := up (up σ3 129 0 1) 129 1 (A : Int))
  have base : ∀ k j, ¬ RunC k j → ¬ (k = 36 ∨ k = 37 ∨ (k = 30 ∧ j = 6) ∨ (k = 129 ∧ (j = 0 ∨ j = 1))) → τ4 k j = σ k j := by
    intro k j n1 n2
    rw [c1 k j n1]
    have h3 : σ3 k j = σ k j := hl1 k j (by
      cases hc : inR ([(36, 37)], [(30, 6)]) k j with
      | false => rfl
      | true =>
        exfalso
        simp only [inR, inC, inS, List.any_cons, List.any_nil, Bool.or_false, Bool.or_eq_true, Bool.and_eq_true, Nat.ble_eq, Nat.beq_eq] at hc
        omega)
    by_cases hk : k = 129
    · subst hk; rw [up_slot (by omega), up_slot (by omega)]; exact h3
    · rw [up_cell hk, up_cell hk]; exact h3
  have b22 : τ4 22 8 = σ 22 8 := base _ _ (by unfold RunC; omega) (by omega)
  obtain ⟨p1, p2, p3, p4, L, N, c, f, cx, cd, q1, q2, q3, q4, q5⟩ := k11
  have hk2 : ∀ b : Nat, b < A → (-1 ≤ τ4 (39 + 7 * b) 2 ∧ τ4 (39 + 7 * b) 2 < τ4 22 8) := by
    intro b hb
    rw [b22, base _ _ (by unfold RunC; omega) (by omega)]
    exact (k6.2 b (by omega)).2.1
  have h29 : ∀ i : Nat, (i : Int) < τ4 22 8 → 0 ≤ τ4 29 i := by
    intro i hi
    rw [b22] at hi
    rw [base _ _ (by unfold RunC; omega) (by omega)]
    obtain ⟨b, hb, -⟩ := q5.2.2.2 i (by omega)
    rw [hb]; omega
  obtain ⟨τ5, o5, w1, w2, w3⟩ := perf_31 (τ := τ4) A8 (fun b hb => (c5 b hb).1) (by rw [b22]; exact p4) hk2 h29
  have own : ∀ k j, ¬ (39 ≤ k ∧ k ≤ 94 ∧ ((3 < j ∧ j ≤ 18) ∨ (k - 39) % 7 ≠ 0)) → τ5 k j = τ4 k j := fun k j n => w1 k j (fun b hb hO => n (by unfold Own1 at hO; omega))
  refine ⟨τ5, ⟨?_, ⟨?_, ?_, ?_, ?_⟩, ?_, ?_, ?_, ?_, w3⟩, ?_⟩
  · intro k j n1 n2
    rw [own k j (by unfold RunC at n1; omega)]; exact base k j n1 n2
  · rw [own _ _ (by omega), c1 _ _ (by unfold RunC; omega), up_slot (by omega), up_eq]
  · rw [own _ _ (by omega), c1 _ _ (by unfold RunC; omega), up_eq]
  · rw [own _ _ (by omega)]; exact c2
  · rw [own _ _ (by omega)]; exact c3
  · intro t s ht
    rw [own _ _ (by omega), c1 _ _ (by unfold RunC; omega), up_cell (by omega), up_cell (by omega)]
    exact (hl4 t ht).2 s
  · intro s hs
    rw [own _ _ (by omega), own _ _ (by omega)]; exact c4 s hs
  · intro b e hb he
    rw [own _ _ (by omega)]; exact (c5 b hb).2 e he
  · intro b hb1 hb2
    obtain ⟨⟨-, -, g1, -⟩, -, -, g2, -⟩ := w2 b hb1 hb2
    exact ⟨g1, g2⟩
  · have hmin : minI (A : Int) (minI 8 8) = (A : Int) := by unfold minI; split <;> split <;> omega
    rw [m_X11_run, isKnow_eq, if_pos hn, bnd_s, if_neg (by decide), o3, bnd_s, e06, m_X8_perform, hmin, vl, bnd_s, pt_s, bnd_s, pt_s, bnd_s, o4, bnd_s, o5, bnd_s]
    cases lp (fun a => m_X8_perform_L69 (A : Int) a.1 a.2) (0, τ5) with
    | none => rfl
    | some σ35 => rfl
