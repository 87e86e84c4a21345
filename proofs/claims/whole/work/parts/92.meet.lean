/-! MEET -/
/-- v waits for a, where a is -/
def CA (A a v t : Nat) (τm : St) : Prop := v < A ∧ v ≠ a ∧ τm 201 (96 * v + t) = τm 201 (96 * a + t) ∧ τm 211 v = 2 ∧ τm 217 v = (a : Int)
theorem comes_no {A a v t : Nat} {τm : St} (ha : a < 8) (hv : v < 8) (h35 : τm 170 35 = (A : Int)) (h71 : τm 170 71 = (t : Int)) (ht : t < 96) (h : ¬ CA A a v t τm) : m_X12_comesAbout (a : Int) (v : Int) τm = some (0, τm) := by
  have pl : ∀ b : Nat, b < 8 → m_X12_placeNow (b : Int) τm = some (τm 201 (96 * b + t)) := by
    intro b hb
    rw [m_X12_placeNow, h71, ix96 (by omega) (by omega), rd_ok (by omega) (by omega), bnd_s, Int.toNat_natCast]
  rw [m_X12_comesAbout, h35]
  by_cases h1 : A ≤ v
  · rw [if_pos (by omega)]
  · rw [if_neg (by omega)]
    by_cases h2 : a = v
    · rw [if_pos (by omega)]
    · rw [if_neg (by omega), pl v hv, bnd_s, pl a ha, bnd_s]
      by_cases h3 : τm 201 (96 * v + t) = τm 201 (96 * a + t)
      · rw [if_pos h3, rd_ok (by omega) (by omega), bnd_s, Int.toNat_natCast]
        by_cases h4 : τm 211 v = 2
        · rw [if_pos h4, rd_ok (by omega) (by omega), bnd_s, Int.toNat_natCast]
          rw [if_neg (fun q => h ⟨by omega, by omega, h3, h4, q⟩)]
        · rw [if_neg h4]
      · rw [if_neg h3]
theorem comes_yes {A a v t : Nat} {τm : St} (ha : a < A) (hA : A ≤ 8) (h35 : τm 170 35 = (A : Int)) (h71 : τm 170 71 = (t : Int)) (ht : t < 96) (h : CA A a v t τm) : m_X12_comesAbout (a : Int) (v : Int) τm = some (1, if τm 207 (8 * a + v) = -1 then up (up (up τm 211 v 3) 207 (8 * a + v) (t : Int)) 207 (8 * v + a) (t : Int) else up τm 211 v 3) := by
  obtain ⟨h1, h2, h3, h4, h5⟩ := h
  have pl : ∀ b : Nat, b < 8 → m_X12_placeNow (b : Int) τm = some (τm 201 (96 * b + t)) := by
    intro b hb
    rw [m_X12_placeNow, h71, ix96 (by omega) (by omega), rd_ok (by omega) (by omega), bnd_s, Int.toNat_natCast]
  rw [m_X12_comesAbout, h35, if_neg (by omega), if_neg (by omega), pl v (by omega), bnd_s, pl a (by omega), bnd_s, if_pos h3, rd_ok (by omega) (by omega), bnd_s, Int.toNat_natCast, if_pos h4, rd_ok (by omega) (by omega), bnd_s, Int.toNat_natCast, if_pos h5, wt_ok (by omega) (by omega), bnd_s, Int.toNat_natCast, ix8 (by omega) (by omega), rd_ok (by omega) (by omega), bnd_s, Int.toNat_natCast, up_cell (by decide)]
  by_cases h6 : τm 207 (8 * a + v) = -1
  · rw [if_pos h6, if_pos h6, wt_ok (by omega) (by omega), bnd_s, Int.toNat_natCast, ix8 (by omega) (by omega), wt_ok (by omega) (by omega), bnd_s, Int.toNat_natCast, up_cell (by decide), h71, up_cell (by decide), up_cell (by decide), h71]
  · rw [if_neg h6, if_neg h6]
/-- whom an agent waits for, in class and model -/
theorem ag_six {ρ : St} {A N : Nat} {f : Nat → Nat} {cx : Nat → List Bool} {cd : Nat → Nat} {t j v a : Nat} {τ τm : St} (h : AgB ρ A N f cx cd t j v τ τm) : (τ (39 + 7 * v) 6 = (a : Int) ↔ τm 211 v = 2 ∧ τm 217 v = (a : Int)) ∧ (τm 211 v = 2 → τm 201 (96 * v + t) = τm 213 v) := by
  obtain ⟨s, ⟨q1, q2⟩, q3, h⟩ := h
  rcases h with ⟨m, -, ⟨x, -⟩, -⟩ | ⟨-, p, l, -, -, h⟩
  · exact ⟨by omega, by omega⟩
  · rcases h with ⟨m, -, ⟨x, -⟩, -⟩ | ⟨m, -, ⟨x, -⟩, -⟩ | ⟨m, -, ⟨x, -⟩, -, -, -, hH⟩ | ⟨m, -, ⟨x, -⟩, -⟩ | ⟨m, -, ⟨x, -⟩, -⟩
    · exact ⟨by omega, by omega⟩
    · exact ⟨by omega, by omega⟩
    · refine ⟨by omega, fun _ => ?_⟩
      have hH' : τm 201 (96 * v + t) = (s : Int) := hH
      omega
    · exact ⟨by omega, by omega⟩
    · exact ⟨by omega, by omega⟩
/-- agent v's waiting comes to its end: a has come -/
theorem ag_met {ρ : St} {A N : Nat} {f : Nat → Nat} {cx : Nat → List Bool} {cd : Nat → Nat} {t j v a : Nat} {τ τm : St} (ha : a < A) (h : AgB ρ A N f cx cd t j v τ τm) (h2 : τm 211 v = 2) (h3 : τm 217 v = (a : Int)) : AgB ρ A N f cx cd t j v (up (up τ (39 + 7 * v) 6 (-1)) (39 + 7 * v) 8 (a : Int)) (up τm 211 v 3) := by
  obtain ⟨s, ⟨q1, q2⟩, ⟨q3, q4⟩, h⟩ := h
  refine ⟨s, ⟨?_, q2⟩, ⟨?_, ?_⟩, ?_⟩
  · simp (disch := omega) only [up_eq, up_cell, up_slot]; exact q1
  · simp (disch := omega) only [up_eq, up_cell, up_slot]; exact q3
  · simp (disch := omega) only [up_eq, up_cell, up_slot]; exact q4
  rcases h with ⟨m, -⟩ | ⟨e18, p, l, ⟨e1, e2, e3⟩, ⟨e4, e5, e6⟩, h⟩
  · omega
  · rcases h with ⟨m, -⟩ | ⟨m, -⟩ | ⟨m, r, ⟨x1, x2, x3, x4, x5⟩, y1, y2, y3, y4⟩ | ⟨m, -⟩ | ⟨m, -⟩
    · omega
    · omega
    · refine Or.inr ⟨?_, p, l, ⟨e1, ?_, ?_⟩, ⟨?_, ?_, e6⟩, Or.inr (Or.inr (Or.inr (Or.inl ⟨up_eq .., ?_, ⟨?_, x4, a, ha, up_eq .., ?_⟩, ?_, ?_, ?_, ?_⟩)))⟩
      · simp (disch := omega) only [up_eq, up_cell, up_slot]; exact e18
      · simp (disch := omega) only [up_eq, up_cell, up_slot]; exact e2
      · simp (disch := omega) only [up_eq, up_cell, up_slot]; exact e3
      · exact FrC_cg e4 (by rw [up_cell (by omega), up_cell (by omega)]) (funext fun i => by rw [up_cell (by omega), up_cell (by omega)]) (funext fun i => by rw [up_cell (by omega), up_cell (by omega)])
      · exact FrM_cg2 e5 (up_cell (by omega)) (fun i _ _ => ⟨up_cell (by omega), up_cell (by omega)⟩)
      · simp (disch := omega) only [up_eq, up_cell, up_slot]; exact r
      · simp (disch := omega) only [up_eq, up_cell, up_slot]
      · simp (disch := omega) only [up_eq, up_cell, up_slot]; exact h3
      · simp (disch := omega) only [up_eq, up_cell, up_slot]; exact y1
      · simp (disch := omega) only [up_eq, up_cell, up_slot]; exact y2
      · simp (disch := omega) only [up_eq, up_cell, up_slot]; exact y3
      · show (up τm 211 v 3) 201 (96 * v + t) = _
        rw [up_cell (by decide)]; exact y4
    · omega
    · omega
theorem Wld_meet {ρ : St} {A N : Nat} {f : Nat → Nat} {cx : Nat → List Bool} {cd : Nat → Nat} {t j a v : Nat} {τ τm : St} (hA : A ≤ 8) (hW : Wld ρ A N f cx cd t j (fun b => b ≠ a) τ τm) (ha : a < A) (hv : v < A) (hva : v ≠ a) (h2 : τm 211 v = 2) (h3 : τm 217 v = (a : Int)) : Wld ρ A N f cx cd t j (fun b => b ≠ a) (up (up τ (39 + 7 * v) 6 (-1)) (39 + 7 * v) 8 (a : Int)) (up τm 211 v 3) := by
  obtain ⟨⟨⟨w1, w2⟩, ⟨w3, w4⟩, w5, w6, w7⟩, ⟨⟨rk, w8⟩, w9, w10, w11, w12, w13, w14⟩, w15, w16⟩ := hW
  have c1 : ∀ k j, ¬ (k = 39 + 7 * v ∧ (j = 6 ∨ j = 8)) → (up (up τ (39 + 7 * v) 6 (-1)) (39 + 7 * v) 8 (a : Int)) k j = τ k j := by
    intro k j n
    by_cases hk : k = 39 + 7 * v
    · subst hk; rw [up_slot (by omega), up_slot (by omega)]
    · rw [up_cell hk, up_cell hk]
  have m1 : ∀ k j, ¬ (k = 211 ∧ j = v) → (up τm 211 v 3) k j = τm k j := by
    intro k j n
    by_cases hk : k = 211
    · subst hk; rw [up_slot (by omega)]
    · rw [up_cell hk]
  refine ⟨⟨⟨?_, ?_⟩, ⟨?_, ?_⟩, ?_, ?_, ?_⟩, ⟨⟨rk, ?_⟩, ?_, ?_, ?_, ?_, ?_, ?_⟩, ?_, ?_⟩
  · intro k i hr
    rw [c1 k i (by unfold RunC at hr; omega)]; exact w1 k i hr
  · intro k i hr
    rw [m1 k i (by unfold RunM at hr; omega)]; exact w2 k i hr
  · rw [c1 _ _ (by omega), m1 _ _ (by omega)]; exact w3
  · rw [c1 _ _ (by omega), m1 _ _ (by omega)]; exact w4
  · rw [c1 _ _ (by omega)]; exact w5
  · rw [c1 _ _ (by omega), m1 _ _ (by omega)]; exact w6
  · rw [c1 _ _ (by omega)]; intro i hi; rw [c1 _ _ (by omega), m1 _ _ (by omega)]; exact w7 i hi
  · intro b i hb hi
    obtain ⟨⟨g1, g2⟩, g3, g4⟩ := w8 b i hb hi
    rw [m1 202 _ (by omega), m1 203 _ (by omega), c1 (44 + 7 * b) _ (by omega), c1 (45 + 7 * b) _ (by omega)]
    refine ⟨⟨g1, g2⟩, ?_, g4⟩
    rcases g3 with g3 | ⟨e, e1, e2, e3, e4⟩
    · exact Or.inl g3
    · exact Or.inr ⟨e, e1, e2, e3, by rw [m1 202 _ (by omega)]; exact e4⟩
  · intro b hb
    rw [m1 204 _ (by omega), c1 (39 + 7 * b) 16 (by omega)]
    obtain ⟨g1, g2, g3⟩ := w9 b hb
    exact ⟨g1, g2, fun i hi q => by rw [m1 202 _ (by omega)]; exact g3 i hi q⟩
  · intro s hs
    rw [m1 205 _ (by omega), c1 130 _ (by omega)]; exact w10 s hs
  · intro s hs
    obtain ⟨g1, g2⟩ := w11 s hs
    rw [c1 131 _ (by omega)]
    refine ⟨g1, fun i hi => ?_⟩
    obtain ⟨g3, g4⟩ := g2 i hi
    rw [m1 206 _ (by omega), c1 (143 + s) _ (by omega)]
    refine ⟨g3, fun q => ?_⟩
    obtain ⟨e, e1, e2, e3, e4⟩ := g4 q
    exact ⟨e, e1, e2, e3, by rw [m1 202 _ (by omega)]; exact e4⟩
  · intro b hb
    obtain ⟨g1, g2⟩ := w12 b hb
    refine ⟨by rw [m1 207 _ (by omega)]; exact g1, fun e he => ?_⟩
    rw [m1 207 _ (by omega), c1 (133 + b) _ (by omega)]; exact g2 e he
  · intro b t' hb ht'
    rw [m1 201 _ (by omega), c1 (43 + 7 * b) t' (by omega)]; exact w13 b t' hb ht'
  · intro b hb hb8
    obtain ⟨g1, g2⟩ := w14 b hb hb8
    refine ⟨by rw [c1 (39 + 7 * b) 6 (by omega)]; exact g1, fun t' ht' => ?_⟩
    rw [c1 (43 + 7 * b) t' (by omega)]; exact g2 t' ht'
  · intro b hb hba
    by_cases hbv : b = v
    · subst hbv
      exact ag_met ha (w15 b hb hba) h2 h3
    · refine AgB_cg (w15 b hb hba) ?_ ?_ ?_ ?_ ?_ ?_ ?_
      · intro i hi; exact c1 _ _ (by omega)
      · exact c1 _ _ (by omega)
      · exact funext fun i => c1 _ _ (by omega)
      · exact funext fun i => c1 _ _ (by omega)
      · intro k k1 k2 k3; exact m1 _ _ (by omega)
      · intro i i1 i2; exact ⟨m1 _ _ (by omega), m1 _ _ (by omega)⟩
      · exact m1 _ _ (by omega)
  · intro b e hb he qb qe hbe h1 h2' h3' h4
    by_cases hbv : b = v
    · subst hbv; rw [up_eq] at h1; omega
    · by_cases hev : e = v
      · subst hev; rw [up_eq] at h2'; omega
      · rw [m1 _ _ (by omega)] at h1 h2' h3' h4
        rw [m1 _ _ (by omega), m1 _ _ (by omega)]
        exact w16 b e hb he qb qe hbe h1 h2' h3' h4
/-- a meeting is written down -/
theorem Wld_note {ρ : St} {A N : Nat} {f : Nat → Nat} {cx : Nat → List Bool} {cd : Nat → Nat} {t j a v : Nat} {q : Nat → Prop} {τ τm : St} {z : Int} (hA : A ≤ 8) (hW : Wld ρ A N f cx cd t j q τ τm) (ha : a < A) (hv : v < A) (hva : v ≠ a) : Wld ρ A N f cx cd t j q (up (up τ (133 + a) v z) (133 + v) a z) (up (up τm 207 (8 * a + v) z) 207 (8 * v + a) z) := by
  obtain ⟨⟨⟨w1, w2⟩, ⟨w3, w4⟩, w5, w6, w7⟩, ⟨⟨rk, w8⟩, w9, w10, w11, w12, w13, w14⟩, w15, w16⟩ := hW
  have c1 : ∀ k j, (k < 133 ∨ 140 < k) → (up (up τ (133 + a) v z) (133 + v) a z) k j = τ k j := by
    intro k j n
    rw [up_cell (by omega), up_cell (by omega)]
  have m1 : ∀ k j, k ≠ 207 → (up (up τm 207 (8 * a + v) z) 207 (8 * v + a) z) k j = τm k j := by
    intro k j n
    rw [up_cell n, up_cell n]
  refine ⟨⟨⟨?_, ?_⟩, ⟨?_, ?_⟩, ?_, ?_, ?_⟩, ⟨⟨rk, ?_⟩, ?_, ?_, ?_, ?_, ?_, ?_⟩, ?_, ?_⟩
  · intro k i hr
    rw [c1 k i (by unfold RunC at hr; omega)]; exact w1 k i hr
  · intro k i hr
    rw [m1 k i (by unfold RunM at hr; omega)]; exact w2 k i hr
  · rw [c1 _ _ (by omega), m1 _ _ (by omega)]; exact w3
  · rw [c1 _ _ (by omega), m1 _ _ (by omega)]; exact w4
  · rw [c1 _ _ (by omega)]; exact w5
  · rw [c1 _ _ (by omega), m1 _ _ (by omega)]; exact w6
  · rw [c1 _ _ (by omega)]; intro i hi; rw [c1 _ _ (by omega), m1 _ _ (by omega)]; exact w7 i hi
  · intro b i hb hi
    obtain ⟨⟨g1, g2⟩, g3, g4⟩ := w8 b i hb hi
    rw [m1 202 _ (by omega), m1 203 _ (by omega), c1 (44 + 7 * b) _ (by omega), c1 (45 + 7 * b) _ (by omega)]
    refine ⟨⟨g1, g2⟩, ?_, g4⟩
    rcases g3 with g3 | ⟨e, e1, e2, e3, e4⟩
    · exact Or.inl g3
    · exact Or.inr ⟨e, e1, e2, e3, by rw [m1 202 _ (by omega)]; exact e4⟩
  · intro b hb
    rw [m1 204 _ (by omega), c1 (39 + 7 * b) 16 (by omega)]
    obtain ⟨g1, g2, g3⟩ := w9 b hb
    exact ⟨g1, g2, fun i hi q => by rw [m1 202 _ (by omega)]; exact g3 i hi q⟩
  · intro s hs
    rw [m1 205 _ (by omega), c1 130 _ (by omega)]; exact w10 s hs
  · intro s hs
    obtain ⟨g1, g2⟩ := w11 s hs
    rw [c1 131 _ (by omega)]
    refine ⟨g1, fun i hi => ?_⟩
    obtain ⟨g3, g4⟩ := g2 i hi
    rw [m1 206 _ (by omega), c1 (143 + s) _ (by omega)]
    refine ⟨g3, fun q => ?_⟩
    obtain ⟨e, e1, e2, e3, e4⟩ := g4 q
    exact ⟨e, e1, e2, e3, by rw [m1 202 _ (by omega)]; exact e4⟩
  · intro b hb
    obtain ⟨g1, g2⟩ := w12 b hb
    refine ⟨by rw [up_slot (by omega), up_slot (by omega)]; exact g1, fun e he => ?_⟩
    by_cases h1 : b = v ∧ e = a
    · obtain ⟨h1, h1'⟩ := h1
      subst h1; subst h1'
      rw [up_eq, up_eq]
    · by_cases h2 : b = a ∧ e = v
      · obtain ⟨h2, h2'⟩ := h2
        subst h2; subst h2'
        rw [up_slot (by omega), up_eq, up_cell (by omega), up_eq]
      · rw [up_slot (by omega), up_slot (by omega)]
        have e1 : (up (up τ (133 + a) v z) (133 + v) a z) (133 + b) e = τ (133 + b) e := by
          by_cases hbv : b = v
          · subst hbv
            rw [up_slot (by omega), up_cell (by omega)]
          · rw [up_cell (by omega)]
            by_cases hba : b = a
            · subst hba; rw [up_slot (by omega)]
            · rw [up_cell (by omega)]
        rw [e1]; exact g2 e he
  · intro b t' hb ht'
    rw [m1 201 _ (by omega), c1 (43 + 7 * b) t' (by omega)]; exact w13 b t' hb ht'
  · intro b hb hb8
    obtain ⟨g1, g2⟩ := w14 b hb hb8
    refine ⟨by rw [c1 (39 + 7 * b) 6 (by omega)]; exact g1, fun t' ht' => ?_⟩
    rw [c1 (43 + 7 * b) t' (by omega)]; exact g2 t' ht'
  · intro b hb hba
    refine AgB_cg (w15 b hb hba) ?_ ?_ ?_ ?_ ?_ ?_ ?_
    · intro i hi; exact c1 _ _ (by omega)
    · exact c1 _ _ (by omega)
    · exact funext fun i => c1 _ _ (by omega)
    · exact funext fun i => c1 _ _ (by omega)
    · intro k k1 k2 k3; exact m1 _ _ (by omega)
    · intro i i1 i2; exact ⟨m1 _ _ (by omega), m1 _ _ (by omega)⟩
    · exact m1 _ _ (by omega)
  · intro b e hb he qb qe hbe
    rw [m1 _ _ (by omega), m1 _ _ (by omega), m1 _ _ (by omega), m1 _ _ (by omega), m1 _ _ (by omega), m1 _ _ (by omega)]
    exact w16 b e hb he qb qe hbe
