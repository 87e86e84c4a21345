/-! a tick: all stand, and are seen -/
def rPs (A t m : Nat) (τ τm : St) : Prop := (∀ b t' : Nat, b < A → (t' < t ∨ (t' = t ∧ b < m)) → τm 201 (96 * b + t') = τ (43 + 7 * b) t') ∧ ∀ b : Nat, A ≤ b → b < 8 → τ (39 + 7 * b) 6 = -1 ∧ ∀ t' : Nat, t' < 96 → τ (43 + 7 * b) t' = -1
/-- between two ticks -/
def AgN (ρ : St) (A N : Nat) (f : Nat → Nat) (cx : Nat → List Bool) (cd : Nat → Nat) (t : Nat) (b : Nat) (τ τm : St) : Prop := AgG ρ A N f cx cd (t : Int) (fun _ => True) (fun _ => True) (fun _ => False) b τ τm
def Std (ρ : St) (A N : Nat) (f : Nat → Nat) (cx : Nat → List Bool) (cd : Nat → Nat) (t m k : Nat) (τ τm : St) : Prop :=
  (FrW ρ τ τm ∧ rCt t τ τm ∧ rSw k τ τm) ∧ (rKn A τ τm ∧ rPa A τ τm ∧ rMk τ τm ∧ rLi A τ τm ∧ rMe A τ τm ∧ rPs A t m τ τm) ∧ (∀ b, b < A → (b < m → AgB ρ A N f cx cd t 0 b τ τm) ∧ (m ≤ b → AgN ρ A N f cx cd t b τ τm)) ∧ rTwo A (fun _ => True) τm
theorem std_upd {ρ : St} {A N : Nat} {f : Nat → Nat} {cx : Nat → List Bool} {cd : Nat → Nat} {t m k : Nat} {τ τm τ' τm' : St} (hA : A ≤ 8) (h : Std ρ A N f cx cd t m k τ τm) (hm : m < A) (hC : ∀ c j, ¬ (c = 39 + 7 * m ∧ (j = 9 ∨ j = 10)) → ¬ (c = 43 + 7 * m ∧ j = t) → τ' c j = τ c j) (hM : ∀ c j, ¬ (c = 201 ∧ j = 96 * m + t) → τm' c j = τm c j) (hg : AgB ρ A N f cx cd t 0 m τ' τm') (hp : τm' 201 (96 * m + t) = τ' (43 + 7 * m) t) : Std ρ A N f cx cd t (m + 1) k τ' τm' := by
  obtain ⟨⟨⟨w1, w2⟩, ⟨w3, w4⟩, w5, w6, w7⟩, ⟨⟨rk, w8⟩, w9, w10, w11, w12, w13, w14⟩, w15, w16⟩ := h
  have ht : t < 96 := w3.2.2
  have c2 : ∀ c i, 129 ≤ c → τ' c i = τ c i := fun c i hk => hC c i (by omega) (by omega)
  have m2 : ∀ c i, c ≠ 201 → τm' c i = τm c i := fun c i hk => hM c i (by omega)
  refine ⟨⟨⟨?_, ?_⟩, ⟨?_, ?_⟩, ?_, ?_, ?_⟩, ⟨⟨rk, ?_⟩, ?_, ?_, ?_, ?_, ?_, ?_⟩, ?_, ?_⟩
  · intro c i hr
    rw [hC c i (by unfold RunC at hr; omega) (by unfold RunC at hr; omega)]; exact w1 c i hr
  · intro c i hr
    rw [hM c i (by unfold RunM at hr; omega)]; exact w2 c i hr
  · rw [c2 129 _ (by omega), m2 170 _ (by omega)]; exact w3
  · rw [c2 129 _ (by omega), m2 170 _ (by omega)]; exact w4
  · rw [c2 129 _ (by omega)]; exact w5
  · rw [c2 129 _ (by omega), m2 170 _ (by omega)]; exact w6
  · rw [c2 129 _ (by omega)]; intro i hi; rw [c2 141 i (by omega), m2 210 i (by omega)]; exact w7 i hi
  · intro b i hb hi
    obtain ⟨⟨g1, g2⟩, g3, g4⟩ := w8 b i hb hi
    rw [m2 202 _ (by omega), m2 203 _ (by omega), hC (44 + 7 * b) i (by omega) (by omega), hC (45 + 7 * b) i (by omega) (by omega)]
    refine ⟨⟨g1, g2⟩, ?_, g4⟩
    rcases g3 with g3 | ⟨e, e1, e2, e3, e4⟩
    · exact Or.inl g3
    · exact Or.inr ⟨e, e1, e2, e3, by rw [m2 202 _ (by omega)]; exact e4⟩
  · intro b hb
    rw [m2 204 _ (by omega), hC (39 + 7 * b) 16 (by omega) (by omega)]
    obtain ⟨g1, g2, g3⟩ := w9 b hb
    exact ⟨g1, g2, fun i hi q => by rw [m2 202 _ (by omega)]; exact g3 i hi q⟩
  · intro s hs
    rw [m2 205 _ (by omega), c2 130 _ (by omega)]; exact w10 s hs
  · intro s hs
    obtain ⟨g1, g2⟩ := w11 s hs
    rw [c2 131 _ (by omega)]
    refine ⟨g1, fun i hi => ?_⟩
    obtain ⟨g3, g4⟩ := g2 i hi
    rw [m2 206 _ (by omega), c2 (143 + s) _ (by omega)]
    refine ⟨g3, fun q => ?_⟩
    obtain ⟨e, e1, e2, e3, e4⟩ := g4 q
    exact ⟨e, e1, e2, e3, by rw [m2 202 _ (by omega)]; exact e4⟩
  · intro b hb
    obtain ⟨g1, g2⟩ := w12 b hb
    refine ⟨by rw [m2 207 _ (by omega)]; exact g1, fun e he => ?_⟩
    rw [m2 207 _ (by omega), c2 (133 + b) _ (by omega)]; exact g2 e he
  · intro b t' hb ht'
    by_cases hz : b = m ∧ t' = t
    · obtain ⟨z1, z2⟩ := hz
      subst z1; subst z2
      exact hp
    · rw [hM 201 _ (by omega), hC (43 + 7 * b) t' (by omega) (by omega)]; exact w13 b t' hb (by omega)
  · intro b hb hb8
    obtain ⟨g1, g2⟩ := w14 b hb hb8
    refine ⟨by rw [hC (39 + 7 * b) 6 (by omega) (by omega)]; exact g1, fun t' ht' => ?_⟩
    rw [hC (43 + 7 * b) t' (by omega) (by omega)]; exact g2 t' ht'
  · intro b hb
    obtain ⟨g1, g2⟩ := w15 b hb
    by_cases hbm : b = m
    · subst hbm
      exact ⟨fun _ => hg, fun q => by omega⟩
    · have cg1 : ∀ i, i ≠ 16 → τ' (39 + 7 * b) i = τ (39 + 7 * b) i := fun i _ => hC _ _ (by omega) (by omega)
      have cg2 : τ' (40 + 7 * b) 2 = τ (40 + 7 * b) 2 := hC _ _ (by omega) (by omega)
      have cg3 : τ' (41 + 7 * b) = τ (41 + 7 * b) := funext fun i => hC _ _ (by omega) (by omega)
      have cg4 : τ' (42 + 7 * b) = τ (42 + 7 * b) := funext fun i => hC _ _ (by omega) (by omega)
      have cg5 : ∀ k, 208 ≤ k → k ≤ 218 → k ≠ 210 → τm' k b = τm k b := fun k _ _ _ => m2 _ _ (by omega)
      have cg6 : ∀ j, 64 * b ≤ j → j < 64 * b + 64 → τm' 219 j = τm 219 j ∧ τm' 220 j = τm 220 j := fun j _ _ => ⟨m2 _ _ (by omega), m2 _ _ (by omega)⟩
      exact ⟨fun q => AgB_cg (g1 (by omega)) cg1 cg2 cg3 cg4 cg5 cg6 (hM _ _ (by omega)), fun q => AgG_cg (g2 (by omega)) (Int.le_refl _) cg1 cg2 cg3 cg4 cg5 cg6 (fun _ q => q) (fun _ q => q) (fun _ q => q)⟩
  · intro b e hb he qb qe hbe
    rw [m2 _ _ (by omega), m2 _ _ (by omega), m2 _ _ (by omega), m2 _ _ (by omega), m2 _ _ (by omega), m2 _ _ (by omega)]
    exact w16 b e hb he qb qe hbe
/-- one more is seen -/
theorem std_saw {ρ : St} {A N : Nat} {f : Nat → Nat} {cx : Nat → List Bool} {cd : Nat → Nat} {t m k e : Nat} {v : Int} {τ τm : St} (hA : A ≤ 8) (h : Std ρ A N f cx cd t m k τ τm) (he : τ 129 6 = (e : Int)) : Std ρ A N f cx cd t m (k + 1) (up (up τ 141 e v) 129 6 ((e + 1 : Nat) : Int)) (up (up τm 210 e v) 170 58 ((e + 1 : Nat) : Int)) := by
  obtain ⟨⟨⟨w1, w2⟩, ⟨w3, w4⟩, ⟨e', w5, w5'⟩, w6, w7⟩, ⟨⟨rk, w8⟩, w9, w10, w11, w12, w13, w14⟩, w15, w16⟩ := h
  have c2 : ∀ c i, c ≠ 141 → ¬ (c = 129 ∧ i = 6) → (up (up τ 141 e v) 129 6 ((e + 1 : Nat) : Int)) c i = τ c i := by
    intro c i n1 n2
    by_cases hc : c = 129
    · subst hc; rw [up_slot (by omega), up_cell n1]
    · rw [up_cell hc, up_cell n1]
  have m2 : ∀ c i, c ≠ 210 → ¬ (c = 170 ∧ i = 58) → (up (up τm 210 e v) 170 58 ((e + 1 : Nat) : Int)) c i = τm c i := by
    intro c i n1 n2
    by_cases hc : c = 170
    · subst hc; rw [up_slot (by omega), up_cell n1]
    · rw [up_cell hc, up_cell n1]
  refine ⟨⟨⟨?_, ?_⟩, ⟨?_, ?_⟩, ?_, ?_, ?_⟩, ⟨⟨rk, ?_⟩, ?_, ?_, ?_, ?_, ?_, ?_⟩, ?_, ?_⟩
  · intro c i hr
    rw [c2 c i (by unfold RunC at hr; omega) (by unfold RunC at hr; omega)]; exact w1 c i hr
  · intro c i hr
    rw [m2 c i (by unfold RunM at hr; omega) (by unfold RunM at hr; omega)]; exact w2 c i hr
  · rw [c2 129 _ (by omega) (by omega), m2 170 _ (by omega) (by omega)]; exact w3
  · rw [c2 129 _ (by omega) (by omega), m2 170 _ (by omega) (by omega)]; exact w4
  · exact ⟨e + 1, up_eq .., by omega⟩
  · rw [up_eq, up_eq]
  · rw [up_eq]; intro i hi
    by_cases hie : i = e
    · subst hie; simp (disch := decide) only [up_eq, up_cell]
    · simp (disch := omega) only [up_slot, up_cell]; exact w7 i (by omega)
  · intro b i hb hi
    obtain ⟨⟨g1, g2⟩, g3, g4⟩ := w8 b i hb hi
    rw [m2 202 _ (by omega) (by omega), m2 203 _ (by omega) (by omega), c2 (44 + 7 * b) i (by omega) (by omega), c2 (45 + 7 * b) i (by omega) (by omega)]
    refine ⟨⟨g1, g2⟩, ?_, g4⟩
    rcases g3 with g3 | ⟨e, e1, e2, e3, e4⟩
    · exact Or.inl g3
    · exact Or.inr ⟨e, e1, e2, e3, by rw [m2 202 _ (by omega) (by omega)]; exact e4⟩
  · intro b hb
    rw [m2 204 _ (by omega) (by omega), c2 (39 + 7 * b) 16 (by omega) (by omega)]
    obtain ⟨g1, g2, g3⟩ := w9 b hb
    exact ⟨g1, g2, fun i hi q => by rw [m2 202 _ (by omega) (by omega)]; exact g3 i hi q⟩
  · intro s hs
    rw [m2 205 _ (by omega) (by omega), c2 130 _ (by omega) (by omega)]; exact w10 s hs
  · intro s hs
    obtain ⟨g1, g2⟩ := w11 s hs
    rw [c2 131 _ (by omega) (by omega)]
    refine ⟨g1, fun i hi => ?_⟩
    obtain ⟨g3, g4⟩ := g2 i hi
    rw [m2 206 _ (by omega) (by omega), c2 (143 + s) _ (by omega) (by omega)]
    refine ⟨g3, fun q => ?_⟩
    obtain ⟨e, e1, e2, e3, e4⟩ := g4 q
    exact ⟨e, e1, e2, e3, by rw [m2 202 _ (by omega) (by omega)]; exact e4⟩
  · intro b hb
    obtain ⟨g1, g2⟩ := w12 b hb
    refine ⟨by rw [m2 207 _ (by omega) (by omega)]; exact g1, fun e he => ?_⟩
    rw [m2 207 _ (by omega) (by omega), c2 (133 + b) _ (by omega) (by omega)]; exact g2 e he
  · intro b t' hb ht'
    rw [m2 201 _ (by omega) (by omega), c2 (43 + 7 * b) t' (by omega) (by omega)]; exact w13 b t' hb ht'
  · intro b hb hb8
    obtain ⟨g1, g2⟩ := w14 b hb hb8
    refine ⟨by rw [c2 (39 + 7 * b) 6 (by omega) (by omega)]; exact g1, fun t' ht' => ?_⟩
    rw [c2 (43 + 7 * b) t' (by omega) (by omega)]; exact g2 t' ht'
  · intro b hb
    obtain ⟨g1, g2⟩ := w15 b hb
    have cg1 : ∀ i, i ≠ 16 → (up (up τ 141 e v) 129 6 ((e + 1 : Nat) : Int)) (39 + 7 * b) i = τ (39 + 7 * b) i := fun i _ => c2 _ _ (by omega) (by omega)
    have cg2 : (up (up τ 141 e v) 129 6 ((e + 1 : Nat) : Int)) (40 + 7 * b) 2 = τ (40 + 7 * b) 2 := c2 _ _ (by omega) (by omega)
    have cg3 : (up (up τ 141 e v) 129 6 ((e + 1 : Nat) : Int)) (41 + 7 * b) = τ (41 + 7 * b) := funext fun i => c2 _ _ (by omega) (by omega)
    have cg4 : (up (up τ 141 e v) 129 6 ((e + 1 : Nat) : Int)) (42 + 7 * b) = τ (42 + 7 * b) := funext fun i => c2 _ _ (by omega) (by omega)
    have cg5 : ∀ k, 208 ≤ k → k ≤ 218 → k ≠ 210 → (up (up τm 210 e v) 170 58 ((e + 1 : Nat) : Int)) k b = τm k b := fun k _ _ h => m2 _ _ h (by omega)
    have cg6 : ∀ j, 64 * b ≤ j → j < 64 * b + 64 → (up (up τm 210 e v) 170 58 ((e + 1 : Nat) : Int)) 219 j = τm 219 j ∧ (up (up τm 210 e v) 170 58 ((e + 1 : Nat) : Int)) 220 j = τm 220 j := fun j _ _ => ⟨m2 _ _ (by omega) (by omega), m2 _ _ (by omega) (by omega)⟩
    exact ⟨fun q => AgB_cg (g1 q) cg1 cg2 cg3 cg4 cg5 cg6 (m2 _ _ (by omega) (by omega)), fun q => AgG_cg (g2 q) (Int.le_refl _) cg1 cg2 cg3 cg4 cg5 cg6 (fun _ q => q) (fun _ q => q) (fun _ q => q)⟩
  · intro b e hb he qb qe hbe
    rw [m2 _ _ (by omega) (by omega), m2 _ _ (by omega) (by omega), m2 _ _ (by omega) (by omega), m2 _ _ (by omega) (by omega), m2 _ _ (by omega) (by omega), m2 _ _ (by omega) (by omega)]
    exact w16 b e hb he qb qe hbe
theorem std_mono {ρ : St} {A N : Nat} {f : Nat → Nat} {cx : Nat → List Bool} {cd : Nat → Nat} {t m k k' : Nat} {τ τm : St} (h : Std ρ A N f cx cd t m k τ τm) (hk : k ≤ k') : Std ρ A N f cx cd t m k' τ τm := by
  obtain ⟨⟨w1, w2, ⟨e, w3, w3'⟩, w4⟩, w5⟩ := h
  exact ⟨⟨w1, w2, ⟨e, w3, by omega⟩, w4⟩, w5⟩
theorem ag_spot {ρ : St} {A N : Nat} {f : Nat → Nat} {cx : Nat → List Bool} {cd : Nat → Nat} {t : Int} {H K C : Nat → Prop} {b : Nat} {τ τm : St} (h : AgG ρ A N f cx cd t H K C b τ τm) : AgG ρ A N f cx cd t (fun s => H s ∧ τm 213 b = (s : Int)) K C b τ τm := by
  obtain ⟨s, ⟨q1, q2⟩, q3, h⟩ := h
  refine ⟨s, ⟨q1, q2⟩, q3, ?_⟩
  rcases h with ⟨e1, e2, e3, e4, e5, e6, e7⟩ | ⟨e1, p, l, e2, e3, h⟩
  · exact Or.inl ⟨e1, e2, e3, e4, e5, e6, e7, q1⟩
  · refine Or.inr ⟨e1, p, l, e2, e3, ?_⟩
    rcases h with ⟨m, r, x, g1, g2, g3, g4⟩ | ⟨m, r, x, g1, g2, g3, g4⟩ | ⟨m, r, x, g1, g2, g3, g4⟩ | ⟨m, r, x, g1, g2, g3, g4⟩ | h
    · exact Or.inl ⟨m, r, x, g1, g2, g3, g4, q1⟩
    · exact Or.inr (Or.inl ⟨m, r, x, g1, g2, g3, g4, q1⟩)
    · exact Or.inr (Or.inr (Or.inl ⟨m, r, x, g1, g2, g3, g4, q1⟩))
    · exact Or.inr (Or.inr (Or.inr (Or.inl ⟨m, r, x, g1, g2, g3, g4, q1⟩)))
    · exact Or.inr (Or.inr (Or.inr (Or.inr h)))
theorem ag_free5 {ρ : St} {A N : Nat} {f : Nat → Nat} {cx : Nat → List Bool} {cd : Nat → Nat} {t : Int} {H K C K' C' : Nat → Prop} {b : Nat} {τ τm : St} (h : AgG ρ A N f cx cd t H K C b τ τm) (h5 : τm 211 b ≠ 5) : AgG ρ A N f cx cd t H K' C' b τ τm := by
  obtain ⟨s, q1, q3, h⟩ := h
  refine ⟨s, q1, q3, ?_⟩
  rcases h with h | ⟨e1, p, l, e2, e3, h⟩
  · exact Or.inl h
  · refine Or.inr ⟨e1, p, l, e2, e3, ?_⟩
    rcases h with h | h | h | h | ⟨m, -⟩
    · exact Or.inl h
    · exact Or.inr (Or.inl h)
    · exact Or.inr (Or.inr (Or.inl h))
    · exact Or.inr (Or.inr (Or.inr (Or.inl h)))
    · exact absurd m h5
/-- an agent stands -/
theorem stand_2 {ρ : St} {A N : Nat} {f : Nat → Nat} {cx : Nat → List Bool} {cd : Nat → Nat} {t m k : Nat} {τ τm : St} (hA : A ≤ 8) (h : Std ρ A N f cx cd t m k τ τm) (hm : m < A) (h35 : τm 170 35 = (A : Int)) :
    ∃ τ' τm', m_X0_stand (39 + 7 * m) (t : Int) τ = some τ' ∧ Std ρ A N f cx cd t (m + 1) k τ' τm' ∧
      ((τ' (43 + 7 * m) t = -1 ∧ m_X12_tick_L2 (m : Int) τm = some (.inl (((m + 1 : Nat) : Int), τm'))) ∨ (∃ s : Nat, (s : Int) < ρ 1 4 ∧ τ' (43 + 7 * m) t = (s : Int) ∧ τm' 213 m = (s : Int) ∧ m_X12_tick_L2 (m : Int) τm = m_X12_tick_J33 τm (m : Int) ∧ τm' = up τm 201 (96 * m + t) (s : Int))) := by
  obtain ⟨⟨w0, ⟨⟨w1, w2, w3⟩, w4⟩, -⟩, -, w15, -⟩ := id h
  obtain ⟨s, ⟨q1, q2⟩, ⟨q3, q4⟩, hc⟩ := (w15 m hm).2 (Nat.le_refl _)
  have rd211 : rd τm 211 8 (m : Int) = some (τm 211 m) := by rw [rd_ok (by omega) (by omega), Int.toNat_natCast]
  -- where it is at its spot already
  have here : τ (39 + 7 * m) 10 = -1 → τ (39 + 7 * m) 9 = (s : Int) → τm 211 m ≠ 5 → ∃ τ' τm', m_X0_stand (39 + 7 * m) (t : Int) τ = some τ' ∧ Std ρ A N f cx cd t (m + 1) k τ' τm' ∧
      ((τ' (43 + 7 * m) t = -1 ∧ m_X12_tick_L2 (m : Int) τm = some (.inl (((m + 1 : Nat) : Int), τm'))) ∨ (∃ s : Nat, (s : Int) < ρ 1 4 ∧ τ' (43 + 7 * m) t = (s : Int) ∧ τm' 213 m = (s : Int) ∧ m_X12_tick_L2 (m : Int) τm = m_X12_tick_J33 τm (m : Int) ∧ τm' = up τm 201 (96 * m + t) (s : Int))) := by
    intro g10 g9 n5
    have hg : AgB ρ A N f cx cd t 0 m (up τ (43 + 7 * m) t (s : Int)) (up τm 201 (96 * m + t) (s : Int)) := by
      refine AgG_cg (ag_free5 (K' := fun _ => False) (C' := fun _ => False) (ag_spot ((w15 m hm).2 (Nat.le_refl _))) n5) (Int.le_refl _) (fun i _ => up_cell (by omega)) (up_cell (by omega)) (funext fun i => up_cell (by omega)) (funext fun i => up_cell (by omega)) (fun k _ _ _ => up_cell (by omega)) (fun j _ _ => ⟨up_cell (by decide), up_cell (by decide)⟩) ?_ (fun _ q => absurd q id) (fun _ q => absurd q id)
      rintro s' ⟨-, hs'⟩
      show (up τm 201 (96 * m + t) (s : Int)) 201 (96 * m + t) = (s' : Int)
      rw [up_eq]; omega
    refine ⟨up τ (43 + 7 * m) t (s : Int), up τm 201 (96 * m + t) (s : Int), ?_, ?_, Or.inr ⟨s, q2, up_eq .., by rw [up_cell (by decide)]; exact q1, ?_, rfl⟩⟩
    · rw [m_X0_stand, if_pos g10, m_X0_stand_J29, if_neg (by omega), if_neg (by omega), if_pos g10, g9, wt_ok (by omega) (by omega), bnd_s, Int.toNat_natCast, show 39 + 7 * m + 4 = 43 + 7 * m by omega]
    · refine std_upd hA h hm ?_ ?_ hg ?_
      · intro c j n1 n2
        by_cases hc : c = 43 + 7 * m
        · subst hc; rw [up_slot (by omega)]
        · rw [up_cell hc]
      · intro c j n
        by_cases hc : c = 201
        · subst hc; rw [up_slot (by omega)]
        · rw [up_cell hc]
      · rw [up_eq, up_eq]
    · rw [m_X12_tick_L2, h35, if_neg (by omega), rd211, bnd_s, if_neg n5]
  rcases hc with ⟨md, -, -, g9, g10, -⟩ | ⟨h18, p, l, ⟨p1, p2, p3⟩, ⟨f1, f2, d, f3⟩, hc⟩
  · exact here g10 g9 (by omega)
  · rcases hc with ⟨md, -, -, g9, g10, -⟩ | ⟨md, -, -, g9, g10, -⟩ | ⟨md, -, -, g9, g10, -⟩ | ⟨md, -, -, g9, g10, -⟩ | ⟨md, r, ⟨x6, x8⟩, ⟨g, hgs, g12, g215, hdist⟩, hc⟩
    · exact here g10 g9 (by omega)
    · exact here g10 g9 (by omega)
    · exact here g10 g9 (by omega)
    · exact here g10 g9 (by omega)
    · rcases hc with ⟨g10, g11, -⟩ | ⟨-, -, hF⟩
      · have rd214 : rd τm 214 8 (m : Int) = some (τm 214 m) := by rw [rd_ok (by omega) (by omega), Int.toNat_natCast]
        by_cases hz : (t : Int) < τm 214 m
        · refine ⟨up τ (43 + 7 * m) t (-1), up τm 201 (96 * m + t) (-1), ?_, ?_, Or.inl ⟨up_eq .., ?_⟩⟩
          · rw [m_X0_stand, if_neg (by omega), if_pos (by omega), m_X0_stand_J29, if_neg (by omega), if_neg (by omega), if_neg (by omega), wt_ok (by omega) (by omega), bnd_s, Int.toNat_natCast, show 39 + 7 * m + 4 = 43 + 7 * m by omega]
          · refine std_upd hA h hm ?_ ?_ ?_ ?_
            · intro c j n1 n2
              by_cases hc : c = 43 + 7 * m
              · subst hc; rw [up_slot (by omega)]
              · rw [up_cell hc]
            · intro c j n
              by_cases hc : c = 201
              · subst hc; rw [up_slot (by omega)]
              · rw [up_cell hc]
            · refine ⟨s, ⟨?_, q2⟩, ⟨?_, ?_⟩, Or.inr ⟨?_, p, l, ⟨p1, ?_, ?_⟩, ⟨?_, ?_, d, f3⟩, Or.inr (Or.inr (Or.inr (Or.inr ⟨?_, ?_, ⟨?_, ?_⟩, ⟨g, hgs, ?_, ?_, hdist⟩, Or.inl ⟨?_, ?_, ?_⟩⟩)))⟩⟩
              · rw [up_cell (by omega)]; exact q1
              · rw [up_cell (by omega), up_cell (by omega)]; exact q3
              · rw [up_cell (by omega), up_cell (by omega)]; exact q4
              · rw [up_cell (by omega)]; exact h18
              · rw [up_cell (by omega)]; exact p2
              · rw [up_cell (by omega)]; exact p3
              · exact FrC_cg f1 (up_cell (by omega)) (funext fun i => up_cell (by omega)) (funext fun i => up_cell (by omega))
              · exact FrM_cg2 f2 (up_cell (by omega)) (fun i _ _ => ⟨up_cell (by omega), up_cell (by omega)⟩)
              · rw [up_cell (by omega)]; exact md
              · rw [up_cell (by omega)]; exact r
              · rw [up_cell (by omega)]; exact x6
              · rw [up_cell (by omega)]; exact x8
              · rw [up_cell (by omega)]; exact g12
              · rw [up_cell (by omega)]; exact g215
              · rw [up_cell (by omega)]; exact g10
              · rw [up_cell (by omega), up_cell (by omega)]; exact g11
              · intro _
                rw [up_cell (by omega), up_eq]; exact ⟨hz, rfl⟩
            · rw [up_eq, up_eq]
          · rw [m_X12_tick_L2, h35, if_neg (by omega), rd211, bnd_s, if_pos md, rd214, bnd_s, w2, if_pos hz, ix96 (by omega) (by omega), wt_ok (by omega) (by omega), bnd_s, Int.toNat_natCast, nx1 (by omega)]
        · refine ⟨up (up (up τ (39 + 7 * m) 9 (s : Int)) (39 + 7 * m) 10 (-1)) (43 + 7 * m) t (s : Int), up τm 201 (96 * m + t) (s : Int), ?_, ?_, Or.inr ⟨s, q2, up_eq .., by rw [up_cell (by decide)]; exact q1, ?_, rfl⟩⟩
          · rw [m_X0_stand, if_neg (by omega), if_neg (by omega), pt_s, bnd_s, pt_s, bnd_s, g10, m_X0_stand_J29, if_neg (by omega), if_neg (by omega), if_pos (up_eq ..), up_slot (by omega), up_eq, wt_ok (by omega) (by omega), bnd_s, Int.toNat_natCast, show 39 + 7 * m + 4 = 43 + 7 * m by omega]
          · refine std_upd hA h hm ?_ ?_ ?_ ?_
            · intro c j n1 n2
              by_cases hc : c = 43 + 7 * m
              · subst hc; rw [up_slot (by omega), up_cell (by omega), up_cell (by omega)]
              · rw [up_cell hc]
                by_cases hc2 : c = 39 + 7 * m
                · subst hc2; rw [up_slot (by omega), up_slot (by omega)]
                · rw [up_cell hc2, up_cell hc2]
            · intro c j n
              by_cases hc : c = 201
              · subst hc; rw [up_slot (by omega)]
              · rw [up_cell hc]
            · refine ⟨s, ⟨?_, q2⟩, ⟨?_, ?_⟩, Or.inr ⟨?_, p, l, ⟨p1, ?_, ?_⟩, ⟨?_, ?_, d, f3⟩, Or.inr (Or.inr (Or.inr (Or.inr ⟨?_, ?_, ⟨?_, ?_⟩, ⟨g, hgs, ?_, ?_, hdist⟩, Or.inr ⟨?_, ?_, by omega, ?_⟩⟩)))⟩⟩
              · rw [up_cell (by omega)]; exact q1
              · simp (disch := omega) only [up_eq, up_cell, up_slot]; exact q3
              · simp (disch := omega) only [up_eq, up_cell, up_slot]; exact q4
              · simp (disch := omega) only [up_eq, up_cell, up_slot]; exact h18
              · simp (disch := omega) only [up_eq, up_cell, up_slot]; exact p2
              · rw [up_cell (by omega)]; exact p3
              · exact FrC_cg f1 (by rw [up_cell (by omega), up_cell (by omega), up_cell (by omega)]) (funext fun i => by rw [up_cell (by omega), up_cell (by omega), up_cell (by omega)]) (funext fun i => by rw [up_cell (by omega), up_cell (by omega), up_cell (by omega)])
              · exact FrM_cg2 f2 (up_cell (by omega)) (fun i _ _ => ⟨up_cell (by omega), up_cell (by omega)⟩)
              · rw [up_cell (by omega)]; exact md
              · simp (disch := omega) only [up_eq, up_cell, up_slot]; exact r
              · simp (disch := omega) only [up_eq, up_cell, up_slot]; exact x6
              · simp (disch := omega) only [up_eq, up_cell, up_slot]; exact x8
              · simp (disch := omega) only [up_eq, up_cell, up_slot]; exact g12
              · rw [up_cell (by omega)]; exact g215
              · simp (disch := omega) only [up_eq, up_cell, up_slot]
              · simp (disch := omega) only [up_eq, up_cell, up_slot]
              · rw [up_eq]
            · rw [up_eq, up_eq]
          · rw [m_X12_tick_L2, h35, if_neg (by omega), rd211, bnd_s, if_pos md, rd214, bnd_s, w2, if_neg hz]
      · exact absurd hF id
