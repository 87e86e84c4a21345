/-! the deeds of an agent alone -/
def RunA (ρ : St) (A N : Nat) (f : Nat → Nat) (cx : Nat → List Bool) (cd : Nat → Nat) (t a s : Nat) (τ τm : St) : Prop := Wld ρ A N f cx cd t (a + 1) (fun b => b ≠ a) τ τm ∧ (∃ p l, AtS ρ N a A f cx cd τ τm p l) ∧ Own ρ t a τ τm s
/-- what a deed leads to: the agent goes on, or is at its end, or it takes time -/
def Out (ρ : St) (A N : Nat) (f : Nat → Nat) (cx : Nat → List Bool) (cd : Nat → Nat) (t a s : Nat) (x : Int × St) (τm' : St) : Prop :=
  (x.1 = 0 ∧ RunA ρ A N f cx cd t a s x.2 τm') ∨ (x.1 = 0 ∧ Wld ρ A N f cx cd t (a + 1) (fun _ => True) x.2 τm' ∧ τm' 211 a = 4 ∧ x.2 (39 + 7 * a) 18 ≠ -1) ∨ (x.1 = 1 ∧ Wld ρ A N f cx cd t (a + 1) (fun _ => True) x.2 τm' ∧ τm' 211 a ≠ 0)
/-- agent a is put to the others -/
theorem Wld_in {ρ : St} {A N : Nat} {f : Nat → Nat} {cx : Nat → List Bool} {cd : Nat → Nat} {t j a : Nat} {τ τm : St} (h : Wld ρ A N f cx cd t j (fun b => b ≠ a) τ τm) (hg : AgB ρ A N f cx cd t j a τ τm) (h2 : τm 211 a = 2 → ∀ e : Nat, e < A → e ≠ a → τm 211 e = 2 → τm 217 a = (e : Int) → τm 217 e = (a : Int) → τm 213 a ≠ τm 213 e) : Wld ρ A N f cx cd t j (fun _ => True) τ τm := by
  obtain ⟨w1, w2, w3, w4⟩ := h
  refine ⟨w1, w2, ?_, ?_⟩
  · intro b hb _
    by_cases hba : b = a
    · subst hba; exact hg
    · exact w3 b hb hba
  · intro b e hb he _ _ hbe q1 q2 q3 q4
    by_cases hba : b = a
    · subst hba
      exact h2 q1 e he (fun q => hbe q.symm) q2 q3 q4
    · by_cases hea : e = a
      · subst hea
        exact fun q => h2 q2 b hb hba q1 q4 q3 q.symm
      · exact w4 b e hb he hba hea hbe q1 q2 q3 q4
/-- and taken from them -/
theorem Wld_out {ρ : St} {A N : Nat} {f : Nat → Nat} {cx : Nat → List Bool} {cd : Nat → Nat} {t j a : Nat} {τ τm : St} (h : Wld ρ A N f cx cd t j (fun _ => True) τ τm) : Wld ρ A N f cx cd t j (fun b => b ≠ a) τ τm := by
  obtain ⟨w1, w2, w3, w4⟩ := h
  exact ⟨w1, w2, fun b hb _ => w3 b hb trivial, fun b e hb he _ _ => w4 b e hb he trivial trivial⟩
/-- a code done: waits and ends -/
theorem ag_end {ρ : St} {A N : Nat} {f : Nat → Nat} {cx : Nat → List Bool} {cd : Nat → Nat} {t j a s : Nat} {τ τm : St} (hO : Own ρ t a τ τm s) (h : τm 211 a = 4) (h18 : τ (39 + 7 * a) 18 ≠ -1) : AgB ρ A N f cx cd t j a τ τm := by
  obtain ⟨k1, k5, k6, k7⟩ := hO
  exact ⟨s, k1.1, k1.2, Or.inl ⟨h, h18, k6, k7⟩⟩
theorem out_end {ρ : St} {A N : Nat} {f : Nat → Nat} {cx : Nat → List Bool} {cd : Nat → Nat} {t a s : Nat} {τ τm : St} (hW : Wld ρ A N f cx cd t (a + 1) (fun b => b ≠ a) τ τm) (hO : Own ρ t a τ τm s) (h : τm 211 a = 4) (h18 : τ (39 + 7 * a) 18 ≠ -1) : Out ρ A N f cx cd t a s (0, τ) τm :=
  Or.inr (Or.inl ⟨rfl, Wld_in hW (ag_end hO h h18) (fun q => by omega), h, h18⟩)
theorem Stk_same {A n : Nat} {cx : Nat → List Bool} {cd : Nat → Nat} {d p p' : Nat} {l : List (Nat × Nat)} (hx : cx p' = cx p) (hc : cd p' = cd p) (h : Stk A n cx cd (d + 1) p l) : Stk A n cx cd (d + 1) p' l := by
  obtain ⟨r, h1, h2⟩ := h
  exact ⟨r, by rw [hx]; exact h1, by rw [hc]; exact h2⟩
theorem out_run {ρ : St} {A N : Nat} {f : Nat → Nat} {cx : Nat → List Bool} {cd : Nat → Nat} {t a s : Nat} {τ τm : St} (h : RunA ρ A N f cx cd t a s τ τm) : Out ρ A N f cx cd t a s (0, τ) τm := Or.inl ⟨rfl, h⟩
theorem out_time {ρ : St} {A N : Nat} {f : Nat → Nat} {cx : Nat → List Bool} {cd : Nat → Nat} {t a s : Nat} {τ τm : St} (h : Wld ρ A N f cx cd t (a + 1) (fun _ => True) τ τm) (h2 : τm 211 a ≠ 0) : Out ρ A N f cx cd t a s (1, τ) τm := Or.inr (Or.inr ⟨rfl, h, h2⟩)
/-- ABORT -/
theorem dl_0 {ρ : St} {A N : Nat} {f : Nat → Nat} {cx : Nat → List Bool} {cd : Nat → Nat} {t a s p : Nat} {l : List (Nat × Nat)} {τ τm : St} (ha : a < A) (hA : A ≤ 8) (hW : Wld ρ A N f cx cd t (a + 1) (fun b => b ≠ a) τ τm) (hO : Own ρ t a τ τm s) :
    Hp2 ((pt τ (39 + 7 * a) 18 (τ 129 12)).bind fun σ10 => some ((0 : Int), σ10)) ((wt (up τm 212 a ((f p + 1 : Nat) : Int)) 211 8 (a : Int) 4).bind fun σ47 => (wt σ47 208 8 (a : Int) (σ47 170 71)).bind fun σ49 => some σ49) (Out ρ A N f cx cd t a s) := by
  obtain ⟨⟨-, ⟨⟨w1, w2, w3⟩, w4⟩, -⟩, -⟩ := id hW
  rw [pt_s, bnd_s, wt_ok (by omega) (by omega), bnd_s, Int.toNat_natCast, wt_ok (by omega) (by omega), bnd_s, Int.toNat_natCast, up_cell (by decide), up_cell (by decide), w1, w2, Hp2_some]
  refine out_end (Wld_loc ha hA hW (LocC_up LocC_rf (by omega)) (LocM_up (LocM_up (LocM_up LocM_rf (by omega)) (by omega)) (by omega))) ?_ ?_ ?_
  · obtain ⟨⟨⟨k1, k2⟩, k3, k4⟩, k5, ⟨k6, k7⟩, k8, k9, k10, k11⟩ := hO
    refine ⟨⟨⟨?_, k2⟩, ?_, ?_⟩, ?_, ⟨?_, ?_⟩, ?_, ?_, ?_, ?_⟩
    · simp (disch := omega) only [up_eq, up_cell, up_slot]; exact k1
    · simp (disch := omega) only [up_eq, up_cell, up_slot]
    · simp (disch := omega) only [up_eq, up_cell, up_slot]; exact k4
    all_goals (simp (disch := omega) only [up_eq, up_cell, up_slot]; assumption)
  · simp (disch := omega) only [up_eq, up_cell, up_slot]
  · simp (disch := omega) only [up_eq, up_cell, up_slot]; omega
/-- waits: behind the step, until a tick z -/
theorem dl_wait {ρ : St} {A N : Nat} {f : Nat → Nat} {cx : Nat → List Bool} {cd : Nat → Nat} {t a s p : Nat} {l : List (Nat × Nat)} {τ τm : St} {z : Int} (ha : a < A) (hA : A ≤ 8) (hW : Wld ρ A N f cx cd t (a + 1) (fun b => b ≠ a) τ τm) (hAt : AtS ρ N a A f cx cd τ τm p l) (hO : Own ρ t a τ τm s) :
    Hp2 (some ((if z ≤ (t : Int) then (0 : Int) else 1), up τ (39 + 7 * a) 5 (if z ≤ (t : Int) then (t : Int) else z))) (m_X12_deed_J183 τm (a : Int) z) (Out ρ A N f cx cd t a s) := by
  obtain ⟨⟨-, ⟨⟨w1, w2, w3⟩, w4⟩, -⟩, -⟩ := id hW
  have hO' := hO
  obtain ⟨⟨⟨k1, k2⟩, k3, k4⟩, k5, ⟨k6, k7⟩, k8, k9, k10, k11⟩ := hO'
  rw [m_X12_deed_J183, wt_ok (by omega) (by omega), bnd_s, Int.toNat_natCast, rd_ok (by omega) (by omega), bnd_s, Int.toNat_natCast, up_eq, up_cell (by decide), w2]
  by_cases hz : z ≤ (t : Int)
  · rw [if_pos hz, if_pos hz, if_pos hz, Hp2_some]
    refine out_run ⟨Wld_loc ha hA hW (LocC_up LocC_rf (by omega)) (LocM_up LocM_rf (by omega)), ⟨p, l, ?_⟩, ?_⟩
    · refine AtS_cg hAt ?_ ?_ ?_ ?_ ?_ ?_
      · intro i hi; exact up_slot (by omega)
      · exact up_cell (by omega)
      · exact funext fun i => up_cell (by omega)
      · exact funext fun i => up_cell (by omega)
      · intro k hk; exact up_cell (by omega)
      · intro i _ _; exact ⟨up_cell (by omega), up_cell (by omega)⟩
    · refine ⟨⟨⟨?_, k2⟩, ?_, ?_⟩, ?_, ⟨?_, ?_⟩, ?_, ?_, ?_, ?_⟩
      · rw [up_cell (by omega)]; exact k1
      · rw [up_cell (by omega), up_slot (by omega)]; exact k3
      · rw [up_cell (by omega), up_slot (by omega)]; exact k4
      · rw [up_eq]; exact Int.le_refl _
      all_goals (simp (disch := omega) only [up_eq, up_cell, up_slot]; assumption)
  · rw [if_neg hz, if_neg hz, if_neg hz, wt_ok (by omega) (by omega), bnd_s, Int.toNat_natCast, Hp2_some]
    obtain ⟨a1, a2, a3, a4, a5, a6, a7, a8⟩ := hAt
    refine out_time (Wld_in (Wld_loc ha hA hW (LocC_up LocC_rf (by omega)) (LocM_up (LocM_up LocM_rf (by omega)) (by omega))) ?_ (fun q => by rw [up_eq] at q; omega)) (by rw [up_eq]; decide)
    refine ⟨s, ⟨?_, k2⟩, ⟨?_, ?_⟩, Or.inr ⟨?_, p, l, ⟨a1, ?_, ?_⟩, ⟨?_, ?_, a8⟩, Or.inr (Or.inl ⟨up_eq .., ?_, ⟨?_, ?_⟩, ?_, ?_, ?_, ?_⟩)⟩⟩
    · simp (disch := omega) only [up_eq, up_cell, up_slot]; exact k1
    · simp (disch := omega) only [up_eq, up_cell, up_slot]; exact k3
    · simp (disch := omega) only [up_eq, up_cell, up_slot]; exact k4
    · simp (disch := omega) only [up_eq, up_cell, up_slot]; exact a6
    · simp (disch := omega) only [up_eq, up_cell, up_slot]; exact a2
    · simp (disch := omega) only [up_eq, up_cell, up_slot]; exact a3
    · exact FrC_cg a4 (up_cell (by omega)) (funext fun i => up_cell (by omega)) (funext fun i => up_cell (by omega))
    · exact FrM_cg2 a5 (by rw [up_cell (by omega), up_cell (by omega)]) (fun i _ _ => ⟨by rw [up_cell (by omega), up_cell (by omega)], by rw [up_cell (by omega), up_cell (by omega)]⟩)
    · simp (disch := omega) only [up_eq, up_cell, up_slot]
    all_goals (simp (disch := omega) only [up_eq, up_cell, up_slot]; assumption)
