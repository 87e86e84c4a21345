/-! what deeds change for all: marks, papers, what is known -/
/-- agent a at its code: at step p, with stack l, at spot s -/
def Own (ρ : St) (t a : Nat) (τ τm : St) (s : Nat) : Prop := ((τm 213 a = (s : Int) ∧ (s : Int) < ρ 1 4) ∧ (τm 208 a = τ (39 + 7 * a) 18 ∧ τm 209 a = τ (39 + 7 * a) 17)) ∧ τ (39 + 7 * a) 5 ≤ (t : Int) ∧ (τ (39 + 7 * a) 6 = -1 ∧ τ (39 + 7 * a) 8 = -1) ∧ (τ (39 + 7 * a) 9 = (s : Int) ∧ τ (39 + 7 * a) 10 = -1 ∧ τ (39 + 7 * a) 12 = -1 ∧ τm 201 (96 * a + t) = (s : Int))
def GloC (τ τ' : St) : Prop := ∀ k j, ¬ (k = 129 ∧ j = 13) → ¬ (130 ≤ k ∧ k ≤ 131) → ¬ (143 ≤ k ∧ k ≤ 152) → ¬ (39 ≤ k ∧ k ≤ 94 ∧ (((k - 39) % 7 = 0 ∧ j = 16) ∨ (k - 39) % 7 = 5 ∨ (k - 39) % 7 = 6)) → τ' k j = τ k j
def GloM (τ τ' : St) : Prop := ∀ k j, ¬ (202 ≤ k ∧ k ≤ 206) → ¬ (k = 170 ∧ j = 60) → τ' k j = τ k j
theorem GloC_rf {τ : St} : GloC τ τ := fun _ _ _ _ _ _ => rfl
theorem GloM_rf {τ : St} : GloM τ τ := fun _ _ _ _ => rfl
theorem GloC_up {τ τ' : St} {c i : Nat} {x : Int} (h : GloC τ τ') (hc : (c = 129 ∧ i = 13) ∨ (130 ≤ c ∧ c ≤ 131) ∨ (143 ≤ c ∧ c ≤ 152) ∨ (39 ≤ c ∧ c ≤ 94 ∧ (((c - 39) % 7 = 0 ∧ i = 16) ∨ (c - 39) % 7 = 5 ∨ (c - 39) % 7 = 6))) : GloC τ (up τ' c i x) := fun k j n1 n2 n3 n4 => by
  by_cases hk : k = c
  · subst hk
    rw [up_slot (by omega)]; exact h _ _ n1 n2 n3 n4
  · rw [up_cell hk]; exact h _ _ n1 n2 n3 n4
theorem GloM_up {τ τ' : St} {c i : Nat} {x : Int} (h : GloM τ τ') (hc : (202 ≤ c ∧ c ≤ 206) ∨ (c = 170 ∧ i = 60)) : GloM τ (up τ' c i x) := fun k j n1 n2 => by
  by_cases hk : k = c
  · subst hk
    rw [up_slot (by omega)]; exact h _ _ n1 n2
  · rw [up_cell hk]; exact h _ _ n1 n2
theorem Wld_glo {ρ : St} {A N : Nat} {f : Nat → Nat} {cx : Nat → List Bool} {cd : Nat → Nat} {t j : Nat} {q : Nat → Prop} {τ τm τ' τm' : St} (hA : A ≤ 8) (h : Wld ρ A N f cx cd t j q τ τm) (hC : GloC τ τ') (hM : GloM τm τm') (h1 : rKn A τ' τm') (h2 : rPa A τ' τm') (h3 : rMk τ' τm') (h4 : rLi A τ' τm') (h5 : τ' 129 13 = τm' 170 60) : Wld ρ A N f cx cd t j q τ' τm' := by
  obtain ⟨⟨⟨w1, w2⟩, ⟨w3, w4⟩, w5, w6, w7⟩, ⟨-, -, -, -, w12, w13, w14⟩, w15, w16⟩ := h
  have c1 : ∀ i, i ≠ 13 → τ' 129 i = τ 129 i := fun i hi => hC 129 i (by omega) (by omega) (by omega) (by omega)
  have m2 : ∀ k i, k = 201 ∨ (207 ≤ k) → τm' k i = τm k i := fun k i hk => hM k i (by omega) (by omega)
  have m3 : ∀ i, i ≠ 60 → τm' 170 i = τm 170 i := fun i hi => hM 170 i (by omega) (by omega)
  refine ⟨⟨⟨?_, ?_⟩, ⟨?_, h5⟩, ?_, ?_, ?_⟩, ⟨h1, h2, h3, h4, ?_, ?_, ?_⟩, ?_, ?_⟩
  · intro k i hr
    rw [hC k i (by unfold RunC at hr; omega) (by unfold RunC at hr; omega) (by unfold RunC at hr; omega) (by unfold RunC at hr; omega)]; exact w1 k i hr
  · intro k i hr
    rw [hM k i (by unfold RunM at hr; omega) (by unfold RunM at hr; omega)]; exact w2 k i hr
  · rw [c1 12 (by omega), m3 71 (by omega)]; exact w3
  · rw [c1 6 (by omega)]; exact w5
  · rw [c1 6 (by omega), m3 58 (by omega)]; exact w6
  · rw [c1 6 (by omega)]; intro i hi; rw [hC 141 i (by omega) (by omega) (by omega) (by omega), m2 210 i (by omega)]; exact w7 i hi
  · intro b hb
    obtain ⟨g1, g2⟩ := w12 b hb
    refine ⟨by rw [m2 207 _ (by omega)]; exact g1, fun e he => ?_⟩
    rw [m2 207 _ (by omega), hC (133 + b) _ (by omega) (by omega) (by omega) (by omega)]; exact g2 e he
  · intro b t' hb ht'
    rw [m2 201 _ (by omega), hC (43 + 7 * b) t' (by omega) (by omega) (by omega) (by omega)]; exact w13 b t' hb ht'
  · intro b hb hb8
    obtain ⟨g1, g2⟩ := w14 b hb hb8
    refine ⟨by rw [hC (39 + 7 * b) 6 (by omega) (by omega) (by omega) (by omega)]; exact g1, fun t' ht' => ?_⟩
    rw [hC (43 + 7 * b) t' (by omega) (by omega) (by omega) (by omega)]; exact g2 t' ht'
  · intro b hb hba
    refine AgB_cg (w15 b hb hba) ?_ ?_ ?_ ?_ ?_ ?_ ?_
    · intro i hi; exact hC _ _ (by omega) (by omega) (by omega) (by omega)
    · exact hC _ _ (by omega) (by omega) (by omega) (by omega)
    · exact funext fun i => hC _ _ (by omega) (by omega) (by omega) (by omega)
    · exact funext fun i => hC _ _ (by omega) (by omega) (by omega) (by omega)
    · intro k k1 k2 k3; exact hM _ _ (by omega) (by omega)
    · intro i i1 i2; exact ⟨hM _ _ (by omega) (by omega), hM _ _ (by omega) (by omega)⟩
    · exact hM _ _ (by omega) (by omega)
  · intro b e hb he qb qe hbe
    rw [hM 211 b (by omega) (by omega), hM 211 e (by omega) (by omega), hM 217 b (by omega) (by omega), hM 217 e (by omega) (by omega), hM 213 b (by omega) (by omega), hM 213 e (by omega) (by omega)]
    exact w16 b e hb he qb qe hbe
theorem AtS_cg {ρ : St} {n a A : Nat} {f : Nat → Nat} {cx : Nat → List Bool} {cd : Nat → Nat} {τ τm τ' τm' : St} {p : Nat} {l : List (Nat × Nat)} (h : AtS ρ n a A f cx cd τ τm p l)
    (h1 : ∀ i, i = 4 ∨ i = 18 → τ' (39 + 7 * a) i = τ (39 + 7 * a) i) (h2 : τ' (40 + 7 * a) 2 = τ (40 + 7 * a) 2) (h3 : τ' (41 + 7 * a) = τ (41 + 7 * a)) (h4 : τ' (42 + 7 * a) = τ (42 + 7 * a))
    (h5 : ∀ k, k = 211 ∨ k = 212 ∨ k = 218 → τm' k a = τm k a) (h6 : ∀ j, 64 * a ≤ j → j < 64 * a + 64 → τm' 219 j = τm 219 j ∧ τm' 220 j = τm 220 j) : AtS ρ n a A f cx cd τ' τm' p l := by
  obtain ⟨k1, k2, k3, k4, k5, k6, k7, k8⟩ := h
  exact ⟨k1, (h1 4 (by omega)).trans k2, (h5 212 (by omega)).trans k3, FrC_cg k4 h2 h3 h4, FrM_cg2 k5 (h5 218 (by omega)) h6, (h1 18 (by omega)).trans k6, (h5 211 (by omega)).trans k7, k8⟩
theorem AtS_glo {ρ : St} {n a A : Nat} {f : Nat → Nat} {cx : Nat → List Bool} {cd : Nat → Nat} {τ τm τ' τm' : St} {p : Nat} {l : List (Nat × Nat)} (ha : a < 8) (h : AtS ρ n a A f cx cd τ τm p l) (hC : GloC τ τ') (hM : GloM τm τm') : AtS ρ n a A f cx cd τ' τm' p l := by
  refine AtS_cg h ?_ ?_ ?_ ?_ ?_ ?_
  · intro i hi; exact hC _ _ (by omega) (by omega) (by omega) (by omega)
  · exact hC _ _ (by omega) (by omega) (by omega) (by omega)
  · exact funext fun i => hC _ _ (by omega) (by omega) (by omega) (by omega)
  · exact funext fun i => hC _ _ (by omega) (by omega) (by omega) (by omega)
  · intro k hk; exact hM _ _ (by omega) (by omega)
  · intro i i1 i2; exact ⟨hM _ _ (by omega) (by omega), hM _ _ (by omega) (by omega)⟩
theorem Own_cg {ρ : St} {t a s : Nat} {τ τm τ' τm' : St} (h : Own ρ t a τ τm s) (h1 : ∀ i, i = 18 ∨ i = 17 ∨ i = 5 ∨ i = 6 ∨ i = 8 ∨ i = 9 ∨ i = 10 ∨ i = 12 → τ' (39 + 7 * a) i = τ (39 + 7 * a) i) (h2 : ∀ k, k = 208 ∨ k = 209 ∨ k = 213 → τm' k a = τm k a) (h3 : τm' 201 (96 * a + t) = τm 201 (96 * a + t)) : Own ρ t a τ' τm' s := by
  obtain ⟨⟨⟨k1, k2⟩, k3, k4⟩, k5, ⟨k6, k7⟩, k8, k9, k10, k11⟩ := h
  refine ⟨⟨⟨?_, k2⟩, ?_, ?_⟩, ?_, ⟨?_, ?_⟩, ?_, ?_, ?_, ?_⟩
  · rw [h2 213 (by omega)]; exact k1
  · rw [h2 208 (by omega), h1 18 (by omega)]; exact k3
  · rw [h2 209 (by omega), h1 17 (by omega)]; exact k4
  · rw [h1 5 (by omega)]; exact k5
  · rw [h1 6 (by omega)]; exact k6
  · rw [h1 8 (by omega)]; exact k7
  · rw [h1 9 (by omega)]; exact k8
  · rw [h1 10 (by omega)]; exact k9
  · rw [h1 12 (by omega)]; exact k10
  · rw [h3]; exact k11
theorem Own_glo {ρ : St} {t a s : Nat} {τ τm τ' τm' : St} (ha : a < 8) (h : Own ρ t a τ τm s) (hC : GloC τ τ') (hM : GloM τm τm') : Own ρ t a τ' τm' s := by
  refine Own_cg h ?_ ?_ ?_
  · intro i hi; exact hC _ _ (by omega) (by omega) (by omega) (by omega)
  · intro k hk; exact hM _ _ (by omega) (by omega)
  · exact hM _ _ (by omega) (by omega)
theorem Wld_mk {ρ : St} {A N : Nat} {f : Nat → Nat} {cx : Nat → List Bool} {cd : Nat → Nat} {t j : Nat} {q : Nat → Prop} {τ τm : St} (hA : A ≤ 8) (h : Wld ρ A N f cx cd t j q τ τm) {s : Nat} {x : Int} (hx : 0 ≤ x ∧ x < 16) : Wld ρ A N f cx cd t j q (up τ 130 s x) (up τm 205 s x) := by
  obtain ⟨⟨w1, ⟨w3, w4⟩, w5⟩, ⟨⟨rk, w8⟩, w9, w10, w11, w12⟩, w15⟩ := id h
  refine Wld_glo hA h (GloC_up GloC_rf (by omega)) (GloM_up GloM_rf (by omega)) ?_ ?_ ?_ ?_ ?_
  · refine ⟨rk, fun b i hb hi => ?_⟩
    rw [up_cell (by omega), up_cell (by omega), up_cell (by omega), up_cell (by omega)]
    obtain ⟨g1, g2, g3⟩ := w8 b i hb hi
    refine ⟨g1, ?_, g3⟩
    rcases g2 with g2 | ⟨e, e1, e2, e3, e4⟩
    · exact Or.inl g2
    · exact Or.inr ⟨e, e1, e2, e3, by rw [up_cell (by decide)]; exact e4⟩
  · intro b hb
    rw [up_cell (by decide), up_cell (by omega)]
    obtain ⟨g1, g2, g3⟩ := w9 b hb
    exact ⟨g1, g2, fun i hi q => by rw [up_cell (by decide)]; exact g3 i hi q⟩
  · intro s' hs'
    by_cases hss : s' = s
    · subst hss
      rw [up_eq, up_eq]; exact ⟨rfl, hx⟩
    · rw [up_slot hss, up_slot hss]; exact w10 s' hs'
  · intro s' hs'
    obtain ⟨g1, g2⟩ := w11 s' hs'
    rw [up_cell (by decide)]
    refine ⟨g1, fun i hi => ?_⟩
    obtain ⟨g3, g4⟩ := g2 i hi
    rw [up_cell (by decide), up_cell (by omega)]
    refine ⟨g3, fun q => ?_⟩
    obtain ⟨e, e1, e2, e3, e4⟩ := g4 q
    exact ⟨e, e1, e2, e3, by rw [up_cell (by decide)]; exact e4⟩
  · rw [up_cell (by decide), up_cell (by decide)]; exact w4
theorem Wld_pa {ρ : St} {A N : Nat} {f : Nat → Nat} {cx : Nat → List Bool} {cd : Nat → Nat} {t j : Nat} {q : Nat → Prop} {τ τm : St} (hA : A ≤ 8) (h : Wld ρ A N f cx cd t j q τ τm) {a : Nat} {x : Int} (ha : a < A) (hx : 0 ≤ x ∧ x < 256) (hk : ∀ i : Nat, i < 8 → tb x i = true → τm 202 (8 * a + i) ≠ -1) : Wld ρ A N f cx cd t j q (up τ (39 + 7 * a) 16 x) (up τm 204 a x) := by
  obtain ⟨⟨w1, ⟨w3, w4⟩, w5⟩, ⟨⟨rk, w8⟩, w9, w10, w11, w12⟩, w15⟩ := id h
  refine Wld_glo hA h (GloC_up GloC_rf (by omega)) (GloM_up GloM_rf (by omega)) ?_ ?_ ?_ ?_ ?_
  · refine ⟨rk, fun b i hb hi => ?_⟩
    rw [up_cell (by omega), up_cell (by omega), up_cell (by omega), up_cell (by omega)]
    obtain ⟨g1, g2, g3⟩ := w8 b i hb hi
    refine ⟨g1, ?_, g3⟩
    rcases g2 with g2 | ⟨e, e1, e2, e3, e4⟩
    · exact Or.inl g2
    · exact Or.inr ⟨e, e1, e2, e3, by rw [up_cell (by decide)]; exact e4⟩
  · intro b hb
    by_cases hba : b = a
    · subst hba
      rw [up_eq, up_eq]
      exact ⟨rfl, hx, fun i hi q => by rw [up_cell (by decide)]; exact hk i hi q⟩
    · rw [up_slot hba, up_cell (by omega)]
      obtain ⟨g1, g2, g3⟩ := w9 b hb
      exact ⟨g1, g2, fun i hi q => by rw [up_cell (by decide)]; exact g3 i hi q⟩
  · intro s' hs'
    rw [up_cell (by decide), up_cell (by omega)]; exact w10 s' hs'
  · intro s' hs'
    obtain ⟨g1, g2⟩ := w11 s' hs'
    rw [up_cell (by omega)]
    refine ⟨g1, fun i hi => ?_⟩
    obtain ⟨g3, g4⟩ := g2 i hi
    rw [up_cell (by decide), up_cell (by omega)]
    refine ⟨g3, fun q => ?_⟩
    obtain ⟨e, e1, e2, e3, e4⟩ := g4 q
    exact ⟨e, e1, e2, e3, by rw [up_cell (by decide)]; exact e4⟩
  · rw [up_cell (by omega), up_cell (by decide)]; exact w4
/-- agent a lays a paper down -/
theorem Wld_lv {ρ : St} {A N : Nat} {f : Nat → Nat} {cx : Nat → List Bool} {cd : Nat → Nat} {t j : Nat} {q : Nat → Prop} {τ τm : St} (hA : A ≤ 8) (h : Wld ρ A N f cx cd t j q τ τm) {a s i : Nat} {x : Int} (ha : a < A) (hs : s < 10) (hi : i < 8) (hx : 0 ≤ x ∧ x < 256) (hb : ∀ k : Nat, k < 8 → (tb x k = true ↔ tb (τ 131 s) k = true ∨ k = i)) (hk : τm 202 (8 * a + i) ≠ -1) : Wld ρ A N f cx cd t j q (up (up τ 131 s x) (143 + s) i (a : Int)) (up τm 206 (8 * s + i) (a : Int)) := by
  obtain ⟨⟨w1, ⟨w3, w4⟩, w5⟩, ⟨⟨rk, w8⟩, w9, w10, w11, w12⟩, w15⟩ := id h
  refine Wld_glo hA h (GloC_up (GloC_up GloC_rf (by omega)) (by omega)) (GloM_up GloM_rf (by omega)) ?_ ?_ ?_ ?_ ?_
  · refine ⟨rk, fun b i hb hi => ?_⟩
    rw [up_cell (by omega), up_cell (by omega), up_cell (by omega), up_cell (by omega), up_cell (by omega), up_cell (by omega)]
    obtain ⟨g1, g2, g3⟩ := w8 b i hb hi
    refine ⟨g1, ?_, g3⟩
    rcases g2 with g2 | ⟨e, e1, e2, e3, e4⟩
    · exact Or.inl g2
    · exact Or.inr ⟨e, e1, e2, e3, by rw [up_cell (by decide)]; exact e4⟩
  · intro b hb
    rw [up_cell (by decide), up_cell (by omega), up_cell (by omega)]
    obtain ⟨g1, g2, g3⟩ := w9 b hb
    exact ⟨g1, g2, fun i hi q => by rw [up_cell (by decide)]; exact g3 i hi q⟩
  · intro s' hs'
    rw [up_cell (by decide), up_cell (by omega), up_cell (by decide)]; exact w10 s' hs'
  · intro s' hs'
    obtain ⟨g1, g2⟩ := w11 s' hs'
    by_cases hss : s' = s
    · subst hss
      rw [up_cell (by omega), up_eq]
      refine ⟨hx, fun i' hi' => ?_⟩
      by_cases hii : i' = i
      · subst hii
        rw [up_eq, up_eq]
        refine ⟨?_, fun _ => ⟨a, ha, rfl, rfl, by rw [up_cell (by decide)]; exact hk⟩⟩
        have := (hb i' hi').mpr (Or.inr rfl)
        constructor
        · intro _; exact this
        · intro _; omega
      · rw [up_slot (by omega), up_slot hii, up_cell (by omega)]
        obtain ⟨g3, g4⟩ := g2 i' hi'
        have e := hb i' hi'
        refine ⟨?_, fun q => ?_⟩
        · rw [g3, e]
          constructor
          · exact Or.inl
          · rintro (q | q)
            · exact q
            · exact absurd q hii
        · obtain ⟨e, e1, e2, e3, e4⟩ := g4 q
          exact ⟨e, e1, e2, e3, by rw [up_cell (by decide)]; exact e4⟩
    · rw [up_cell (by omega), up_slot hss]
      refine ⟨g1, fun i' hi' => ?_⟩
      obtain ⟨g3, g4⟩ := g2 i' hi'
      rw [up_slot (by omega), up_cell (by omega), up_cell (by omega)]
      refine ⟨g3, fun q => ?_⟩
      obtain ⟨e, e1, e2, e3, e4⟩ := g4 q
      exact ⟨e, e1, e2, e3, by rw [up_cell (by decide)]; exact e4⟩
  · rw [up_cell (by omega), up_cell (by decide), up_cell (by decide)]; exact w4
/-- a paper is taken from its spot -/
theorem Wld_tk {ρ : St} {A N : Nat} {f : Nat → Nat} {cx : Nat → List Bool} {cd : Nat → Nat} {t j : Nat} {q : Nat → Prop} {τ τm : St} (hA : A ≤ 8) (h : Wld ρ A N f cx cd t j q τ τm) {s i : Nat} {x : Int} (hs : s < 10) (hi : i < 8) (hx : 0 ≤ x ∧ x < 256) (hb : ∀ k : Nat, k < 8 → (tb x k = true ↔ tb (τ 131 s) k = true ∧ k ≠ i)) : Wld ρ A N f cx cd t j q (up τ 131 s x) (up τm 206 (8 * s + i) (-1)) := by
  obtain ⟨⟨w1, ⟨w3, w4⟩, w5⟩, ⟨⟨rk, w8⟩, w9, w10, w11, w12⟩, w15⟩ := id h
  refine Wld_glo hA h (GloC_up GloC_rf (by omega)) (GloM_up GloM_rf (by omega)) ?_ ?_ ?_ ?_ ?_
  · refine ⟨rk, fun b i hb hi => ?_⟩
    rw [up_cell (by omega), up_cell (by omega), up_cell (by omega), up_cell (by omega)]
    obtain ⟨g1, g2, g3⟩ := w8 b i hb hi
    refine ⟨g1, ?_, g3⟩
    rcases g2 with g2 | ⟨e, e1, e2, e3, e4⟩
    · exact Or.inl g2
    · exact Or.inr ⟨e, e1, e2, e3, by rw [up_cell (by decide)]; exact e4⟩
  · intro b hb
    rw [up_cell (by decide), up_cell (by omega)]
    obtain ⟨g1, g2, g3⟩ := w9 b hb
    exact ⟨g1, g2, fun i hi q => by rw [up_cell (by decide)]; exact g3 i hi q⟩
  · intro s' hs'
    rw [up_cell (by decide), up_cell (by decide)]; exact w10 s' hs'
  · intro s' hs'
    obtain ⟨g1, g2⟩ := w11 s' hs'
    by_cases hss : s' = s
    · subst hss
      rw [up_eq]
      refine ⟨hx, fun i' hi' => ?_⟩
      by_cases hii : i' = i
      · subst hii
        rw [up_eq]
        refine ⟨?_, fun q => absurd rfl q⟩
        constructor
        · intro q; exact absurd rfl q
        · intro q; exact absurd rfl ((hb i' hi').mp q).2
      · rw [up_slot (by omega), up_cell (by omega)]
        obtain ⟨g3, g4⟩ := g2 i' hi'
        have e := hb i' hi'
        refine ⟨?_, fun q => ?_⟩
        · rw [g3, e]
          exact ⟨fun q => ⟨q, hii⟩, fun q => q.1⟩
        · obtain ⟨e, e1, e2, e3, e4⟩ := g4 q
          exact ⟨e, e1, e2, e3, by rw [up_cell (by decide)]; exact e4⟩
    · rw [up_slot hss]
      refine ⟨g1, fun i' hi' => ?_⟩
      obtain ⟨g3, g4⟩ := g2 i' hi'
      rw [up_slot (by omega), up_cell (by omega)]
      refine ⟨g3, fun q => ?_⟩
      obtain ⟨e, e1, e2, e3, e4⟩ := g4 q
      exact ⟨e, e1, e2, e3, by rw [up_cell (by decide)]; exact e4⟩
  · rw [up_cell (by decide), up_cell (by decide)]; exact w4
/-- agent b learns secret i of e -/
theorem Wld_ln {ρ : St} {A N : Nat} {f : Nat → Nat} {cx : Nat → List Bool} {cd : Nat → Nat} {t j : Nat} {q : Nat → Prop} {τ τm : St} (hA : A ≤ 8) (h : Wld ρ A N f cx cd t j q τ τm) {b e i : Nat} {y : Int} (hb : b < A) (he : e < A) (hi : i < 8) (hn : τm 202 (8 * b + i) = -1) (hk : τm 202 (8 * e + i) ≠ -1) : Wld ρ A N f cx cd t j q (up (up (up τ (44 + 7 * b) i (t : Int)) (45 + 7 * b) i (e : Int)) 129 13 y) (up (up (up τm 202 (8 * b + i) (t : Int)) 203 (8 * b + i) (e : Int)) 170 60 y) := by
  obtain ⟨⟨w1, ⟨w3, w4⟩, w5⟩, ⟨⟨rk, w8⟩, w9, w10, w11, w12⟩, w15⟩ := id h
  have hbe : b ≠ e := by rintro rfl; exact hk hn
  have kept : ∀ b' i' : Nat, i' < 8 → τm 202 (8 * b' + i') ≠ -1 → (up (up (up τm 202 (8 * b + i) (t : Int)) 203 (8 * b + i) (e : Int)) 170 60 y) 202 (8 * b' + i') ≠ -1 := by
    intro b' i' hi' hq
    rw [up_cell (by decide), up_cell (by decide)]
    by_cases hz : 8 * b' + i' = 8 * b + i
    · rw [hz, up_eq]; omega
    · rw [up_slot hz]; exact hq
  refine Wld_glo hA h (GloC_up (GloC_up (GloC_up GloC_rf (by omega)) (by omega)) (by omega)) (GloM_up (GloM_up (GloM_up GloM_rf (by omega)) (by omega)) (by omega)) ?_ ?_ ?_ ?_ ?_
  · obtain ⟨rk', hrk⟩ : ∃ r : Nat → Nat → Nat, ∀ b' i', r b' i' = if b' = b ∧ i' = i then rk e i + 1 else rk b' i' := ⟨fun b' i' => if b' = b ∧ i' = i then rk e i + 1 else rk b' i', fun _ _ => rfl⟩
    refine ⟨rk', fun b' i' hb' hi' => ?_⟩
    obtain ⟨⟨g1, g2⟩, g3, g4⟩ := w8 b' i' hb' hi'
    by_cases hz : b' = b ∧ i' = i
    · obtain ⟨z1, z2⟩ := hz
      subst z1; subst z2
      have s1 : (up (up (up τm 202 (8 * b' + i') (t : Int)) 203 (8 * b' + i') (e : Int)) 170 60 y) 202 (8 * b' + i') = (t : Int) := by simp (disch := omega) only [up_eq, up_cell, up_slot]
      have s2 : (up (up (up τm 202 (8 * b' + i') (t : Int)) 203 (8 * b' + i') (e : Int)) 170 60 y) 203 (8 * b' + i') = (e : Int) := by simp (disch := omega) only [up_eq, up_cell, up_slot]
      have s3 : (up (up (up τ (44 + 7 * b') i' (t : Int)) (45 + 7 * b') i' (e : Int)) 129 13 y) (44 + 7 * b') i' = (t : Int) := by simp (disch := omega) only [up_eq, up_cell, up_slot]
      have s4 : (up (up (up τ (44 + 7 * b') i' (t : Int)) (45 + 7 * b') i' (e : Int)) 129 13 y) (45 + 7 * b') i' = (e : Int) := by simp (disch := omega) only [up_eq, up_cell, up_slot]
      rw [s1, s2, s3, s4]
      refine ⟨⟨rfl, rfl⟩, Or.inr ⟨e, he, rfl, ?_, kept e i' hi' hk⟩, fun q => by omega⟩
      rw [hrk e i', hrk b' i', if_neg (show ¬ (e = b' ∧ i' = i') by omega), if_pos (show b' = b' ∧ i' = i' from ⟨rfl, rfl⟩)]; omega
    · have hz2 : 8 * b' + i' ≠ 8 * b + i := by omega
      have s1 : (up (up (up τ (44 + 7 * b) i (t : Int)) (45 + 7 * b) i (e : Int)) 129 13 y) (44 + 7 * b') i' = τ (44 + 7 * b') i' := by
        by_cases hbb : b' = b
        · subst hbb; simp (disch := omega) only [up_eq, up_cell, up_slot]
        · simp (disch := omega) only [up_eq, up_cell, up_slot]
      have s2 : (up (up (up τ (44 + 7 * b) i (t : Int)) (45 + 7 * b) i (e : Int)) 129 13 y) (45 + 7 * b') i' = τ (45 + 7 * b') i' := by
        by_cases hbb : b' = b
        · subst hbb; simp (disch := omega) only [up_eq, up_cell, up_slot]
        · simp (disch := omega) only [up_eq, up_cell, up_slot]
      rw [s1, s2]
      have s3 : (up (up (up τm 202 (8 * b + i) (t : Int)) 203 (8 * b + i) (e : Int)) 170 60 y) 202 (8 * b' + i') = τm 202 (8 * b' + i') := by simp (disch := omega) only [up_eq, up_cell, up_slot]
      have s4 : (up (up (up τm 202 (8 * b + i) (t : Int)) 203 (8 * b + i) (e : Int)) 170 60 y) 203 (8 * b' + i') = τm 203 (8 * b' + i') := by simp (disch := omega) only [up_eq, up_cell, up_slot]
      rw [s3, s4]
      refine ⟨⟨g1, g2⟩, ?_, g4⟩
      rcases g3 with g3 | ⟨e', e1, e2, e3, e4⟩
      · exact Or.inl g3
      · refine Or.inr ⟨e', e1, e2, ?_, kept e' i' hi' e4⟩
        have : ¬ (e' = b ∧ i' = i) := by
          rintro ⟨z1, z2⟩
          subst z1; subst z2
          exact e4 hn
        rw [hrk e' i', hrk b' i', if_neg this, if_neg hz]; exact e3
  · intro b' hb'
    rw [up_cell (by decide), up_cell (by decide), up_cell (by decide), up_cell (by omega), up_cell (by omega), up_cell (by omega)]
    obtain ⟨g1, g2, g3⟩ := w9 b' hb'
    exact ⟨g1, g2, fun i hi q => kept _ _ hi (g3 i hi q)⟩
  · intro s' hs'
    rw [up_cell (by decide), up_cell (by decide), up_cell (by decide), up_cell (by omega), up_cell (by omega), up_cell (by omega)]; exact w10 s' hs'
  · intro s' hs'
    obtain ⟨g1, g2⟩ := w11 s' hs'
    rw [up_cell (by omega), up_cell (by omega), up_cell (by omega)]
    refine ⟨g1, fun i' hi' => ?_⟩
    obtain ⟨g3, g4⟩ := g2 i' hi'
    rw [up_cell (by decide), up_cell (by decide), up_cell (by decide), up_cell (by omega), up_cell (by omega), up_cell (by omega)]
    refine ⟨g3, fun q => ?_⟩
    obtain ⟨e, e1, e2, e3, e4⟩ := g4 q
    exact ⟨e, e1, e2, e3, kept _ _ hi' e4⟩
  · rw [up_eq, up_eq]
