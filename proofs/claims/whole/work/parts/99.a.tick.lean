/-! a tick, both sides -/
theorem step_2 {ρ : St} {A N : Nat} {f : Nat → Nat} {cx : Nat → List Bool} {cd : Nat → Nat} {t m : Nat} {τ τm : St} (hB : Base ρ A N f cx cd) (h : Std ρ A N f cx cd t m (8 * t + m) τ τm) (hm : m < A) :
    ∃ τ' τm', m_X8_perform_L83 (A : Int) (t : Int) (m : Int) τ = some (.inl (((m + 1 : Nat) : Int), τ')) ∧ m_X12_tick_L2 (m : Int) τm = some (.inl (((m + 1 : Nat) : Int), τm')) ∧ Std ρ A N f cx cd t (m + 1) (8 * t + (m + 1)) τ' τm' := by
  obtain ⟨⟨bT, bN, bA⟩, ⟨b6, hA, -⟩, -, bW, -⟩ := hB
  have hFr := h.1.1
  have h35 : τm 170 35 = (A : Int) := by rw [fr_s hFr (by omega), bA.1.1, b6]
  obtain ⟨τ1, τm1, o1, hS, hcase⟩ := stand_2 hA h hm h35
  obtain ⟨⟨w0, ⟨⟨w1, w2, w3⟩, w4⟩, ⟨e, w5, w5'⟩, w6, w7⟩, -⟩ := id hS
  have t14 := bT.1
  have pl : m_X8_placeOf (m : Int) τ1 = some (τ1 (43 + 7 * m) t) := placeOf_c (by omega) w1 w3
  have c83 : ∀ τ' : St, m_X8_see (m : Int) τ1 = some τ' → m_X8_perform_L83 (A : Int) (t : Int) (m : Int) τ = some (.inl (((m + 1 : Nat) : Int), τ')) := by
    intro τ' hs
    rw [m_X8_perform_L83, if_neg (by omega), rr_ok (by omega) (by omega), bnd_s, Int.toNat_natCast, rf_ag (by omega), o1, bnd_s, hs, bnd_s, nx1 (by omega)]
  rcases hcase with ⟨hp, hm1⟩ | ⟨s, hs, hp, h213, hm1, hm2⟩
  · refine ⟨τ1, τm1, c83 τ1 ?_, hm1, std_mono hS (by omega)⟩
    rw [m_X8_see, pl, bnd_s, if_pos hp]
  · have hs10 : s < 10 := by omega
    obtain ⟨g1, g2⟩ := bW t s w3 hs10
    have hwc : m_X1_isWatched (τ1 129 12) (s : Int) τ1 = some (if tb (ρ 37 t) s = true then 1 else 0) := by
      rw [w1, m_X1_isWatched, if_neg (by omega), if_neg (by omega), rd_ok (by omega) (by omega), bnd_s, Int.toNat_natCast, fr_c w0 (show 37 < 39 by omega), bit_yes (by omega)]
      split
      · rw [if_neg (by decide)]
      · rw [if_pos rfl]
    have hsee : m_X8_see (m : Int) τ1 = (if tb (ρ 37 t) s = true then some (up (up τ1 141 e (wr (wr (wr (1000 * (t : Int)) + wr (10 * (m : Int))) + (s : Int)))) 129 6 ((e + 1 : Nat) : Int)) else some τ1) := by
      rw [m_X8_see, pl, bnd_s, hp, if_neg (by omega), hwc, bnd_s]
      by_cases hb : tb (ρ 37 t) s = true
      · rw [if_pos hb, if_pos hb, if_neg (by decide), w5, if_neg (by omega), wt_ok (by omega) (by omega), bnd_s, Int.toNat_natCast, pt_s, bnd_s, up_cell (by decide), w5, w1, nx1 (by omega)]
      · rw [if_neg hb, if_neg hb, if_pos rfl]
    -- the model's part
    have h200 : ∀ j, (up τm 201 (96 * m + t) (s : Int)) 200 j = ρ 200 j := fun j => by rw [up_cell (by decide), fr_m hFr (by omega)]
    have g71 : τm 170 71 = (t : Int) := by rw [← w2, hm2, up_cell (by decide)]
    have hm2' : τm1 = up τm 201 (96 * m + t) (s : Int) := hm2
    have h213' : τm 213 m = (s : Int) := by rw [hm2', up_cell (by decide)] at h213; exact h213
    have k58 : τm1 170 58 = (e : Int) := by rw [w6, w5]
    have hL2 : m_X12_tick_L2 (m : Int) τm = (if ρ 200 (96 * s + t) = 0 then some (.inl (((m + 1 : Nat) : Int), τm1)) else some (.inl (((m + 1 : Nat) : Int), up (up τm1 210 e (wr (wr (wr (1000 * (t : Int)) + wr (10 * (m : Int))) + (s : Int)))) 170 58 ((e + 1 : Nat) : Int))) : Option ((Int × St) ⊕ St)) := by
      rw [hm1, m_X12_tick_J33, rd_ok (by omega) (by omega), bnd_s, Int.toNat_natCast, h213', g71, ix96 (by omega) (by omega), wt_ok (by omega) (by omega), bnd_s, Int.toNat_natCast, ← hm2', rd_ok (by omega) (by omega), bnd_s, Int.toNat_natCast, h213, w2, ix96 (by omega) (by omega), rd_ok (by omega) (by omega), bnd_s, Int.toNat_natCast, nx1 (by omega)]
      have e200 : τm1 200 (96 * s + t) = ρ 200 (96 * s + t) := by rw [hm2']; exact h200 _
      rw [e200]
      by_cases hz : ρ 200 (96 * s + t) = 0
      · rw [if_pos hz, if_pos hz]
      · rw [if_neg hz, if_neg hz, bnd_s, k58, wt_ok (by omega) (by omega), bnd_s, Int.toNat_natCast, pt_s, bnd_s, up_cell (by decide), k58, nx1 (by omega)]
    by_cases hb : tb (ρ 37 t) s = true
    · rw [if_pos hb] at hsee
      rw [if_neg (by rw [g2.mpr hb]; decide)] at hL2
      exact ⟨_, _, c83 _ hsee, hL2, std_saw (k := 8 * t + m) hA hS w5⟩
    · rw [if_neg hb] at hsee
      have hz : ρ 200 (96 * s + t) = 0 := by
        rcases g1 with g1 | g1
        · exact absurd (g2.mp g1) hb
        · exact g1
      rw [if_pos hz] at hL2
      exact ⟨_, _, c83 _ hsee, hL2, std_mono hS (by omega)⟩
/-- between two ticks -/
def Bd (ρ : St) (A N : Nat) (f : Nat → Nat) (cx : Nat → List Bool) (cd : Nat → Nat) (t : Nat) (τ τm : St) : Prop :=
  (FrW ρ τ τm ∧ (τm 170 71 = (t : Int) ∧ τ 129 13 = τm 170 60) ∧ rSw (8 * t) τ τm) ∧ (rKn A τ τm ∧ rPa A τ τm ∧ rMk τ τm ∧ rLi A τ τm ∧ rMe A τ τm ∧ rPs A t 0 τ τm) ∧ (∀ b, b < A → AgN ρ A N f cx cd t b τ τm) ∧ rTwo A (fun _ => True) τm
theorem bd_std {ρ : St} {A N : Nat} {f : Nat → Nat} {cx : Nat → List Bool} {cd : Nat → Nat} {t : Nat} {τ τm : St} (hA : A ≤ 8) (h : Bd ρ A N f cx cd t τ τm) (ht : t < 96) : Std ρ A N f cx cd t 0 (8 * t + 0) (up τ 129 12 (t : Int)) τm := by
  obtain ⟨⟨⟨w1, w2⟩, ⟨w3, w4⟩, w5, w6, w7⟩, ⟨⟨rk, w8⟩, w9, w10, w11, w12, w13, w14⟩, w15, w16⟩ := h
  refine ⟨⟨⟨?_, w2⟩, ⟨⟨up_eq .., w3, ht⟩, ?_⟩, ?_, ?_, ?_⟩, ⟨⟨rk, ?_⟩, ?_, ?_, ?_, ?_, ?_, ?_⟩, ?_, w16⟩
  · intro c i hr
    have : ¬ (c = 129 ∧ i = 12) := by unfold RunC at hr; omega
    by_cases hc : c = 129
    · subst hc; rw [up_slot (by omega)]; exact w1 _ i hr
    · rw [up_cell hc]; exact w1 c i hr
  · rw [up_slot (by decide)]; exact w4
  · rw [up_slot (by decide)]; exact w5
  · rw [up_slot (by decide)]; exact w6
  · rw [up_slot (by decide)]; intro i hi; rw [up_cell (by decide)]; exact w7 i hi
  · intro b i hb hi
    rw [up_cell (by omega), up_cell (by omega)]; exact w8 b i hb hi
  · intro b hb
    rw [up_cell (by omega)]; exact w9 b hb
  · intro s hs
    rw [up_cell (by omega)]; exact w10 s hs
  · intro s hs
    obtain ⟨g1, g2⟩ := w11 s hs
    rw [up_cell (by omega)]
    refine ⟨g1, fun i hi => ?_⟩
    rw [up_cell (by omega)]; exact g2 i hi
  · intro b hb
    obtain ⟨g1, g2⟩ := w12 b hb
    refine ⟨g1, fun e he => ?_⟩
    rw [up_cell (by omega)]; exact g2 e he
  · intro b t' hb ht'
    rw [up_cell (by omega)]; exact w13 b t' hb ht'
  · intro b hb hb8
    rw [up_cell (by omega)]
    obtain ⟨g1, g2⟩ := w14 b hb hb8
    exact ⟨g1, fun t' ht' => by rw [up_cell (by omega)]; exact g2 t' ht'⟩
  · intro b hb
    refine ⟨fun q => absurd q (Nat.not_lt_zero _), fun _ => ?_⟩
    exact AgG_cg (w15 b hb) (Int.le_refl _) (fun i _ => up_cell (by omega)) (up_cell (by omega)) (funext fun i => up_cell (by omega)) (funext fun i => up_cell (by omega)) (fun _ _ _ _ => rfl) (fun _ _ _ => ⟨rfl, rfl⟩) (fun _ q => q) (fun _ q => q) (fun _ q => q)
theorem std_wld {ρ : St} {A N : Nat} {f : Nat → Nat} {cx : Nat → List Bool} {cd : Nat → Nat} {t : Nat} {τ τm : St} (hA : A ≤ 8) (h : Std ρ A N f cx cd t A (8 * t + A) τ τm) : Wld ρ A N f cx cd t 0 (fun _ => True) τ τm := by
  obtain ⟨⟨w1, w2, ⟨e, w3, w3'⟩, w4⟩, ⟨v1, v2, v3, v4, v5, v6, v7⟩, w15, w16⟩ := h
  refine ⟨⟨w1, w2, ⟨e, w3, by omega⟩, w4⟩, ⟨v1, v2, v3, v4, v5, ?_, v7⟩, fun b hb _ => (w15 b hb).1 hb, w16⟩
  intro b t' hb ht'
  exact v6 b t' hb (by omega)
/-- the tick's end, and the model's clock put on -/
theorem wld_bd {ρ : St} {A N : Nat} {f : Nat → Nat} {cx : Nat → List Bool} {cd : Nat → Nat} {t : Nat} {τ τm : St} (hA : A ≤ 8) (h : Wld ρ A N f cx cd t A (fun _ => True) τ τm) : Bd ρ A N f cx cd (t + 1) τ (up τm 170 71 ((t + 1 : Nat) : Int)) := by
  obtain ⟨⟨⟨w1, w2⟩, ⟨w3, w4⟩, ⟨e, w5, w5'⟩, w6, w7⟩, ⟨⟨rk, w8⟩, w9, w10, w11, w12, w13, w14⟩, w15, w16⟩ := h
  refine ⟨⟨⟨w1, ?_⟩, ⟨up_eq .., ?_⟩, ⟨e, w5, by omega⟩, ?_, ?_⟩, ⟨⟨rk, ?_⟩, ?_, ?_, ?_, ?_, ?_, w14⟩, ?_, ?_⟩
  · intro c i hr
    have : ¬ (c = 170 ∧ i = 71) := by unfold RunM at hr; omega
    by_cases hc : c = 170
    · subst hc; rw [up_slot (by omega)]; exact w2 _ i hr
    · rw [up_cell hc]; exact w2 c i hr
  · rw [up_slot (by decide)]; exact w4
  · rw [up_slot (by decide)]; exact w6
  · intro i hi; rw [up_cell (by decide)]; exact w7 i hi
  · intro b i hb hi
    obtain ⟨g1, g3, g4⟩ := w8 b i hb hi
    rw [up_cell (by decide), up_cell (by decide)]
    refine ⟨g1, ?_, g4⟩
    rcases g3 with g3 | ⟨e, e1, e2, e3, e4⟩
    · exact Or.inl g3
    · exact Or.inr ⟨e, e1, e2, e3, by rw [up_cell (by decide)]; exact e4⟩
  · intro b hb
    rw [up_cell (by decide)]
    obtain ⟨g1, g2, g3⟩ := w9 b hb
    exact ⟨g1, g2, fun i hi q => by rw [up_cell (by decide)]; exact g3 i hi q⟩
  · intro s hs
    rw [up_cell (by decide)]; exact w10 s hs
  · intro s hs
    obtain ⟨g1, g2⟩ := w11 s hs
    refine ⟨g1, fun i hi => ?_⟩
    obtain ⟨g3, g4⟩ := g2 i hi
    rw [up_cell (by decide)]
    refine ⟨g3, fun q => ?_⟩
    obtain ⟨e, e1, e2, e3, e4⟩ := g4 q
    exact ⟨e, e1, e2, e3, by rw [up_cell (by decide)]; exact e4⟩
  · intro b hb
    obtain ⟨g1, g2⟩ := w12 b hb
    refine ⟨by rw [up_cell (by decide)]; exact g1, fun e he => ?_⟩
    rw [up_cell (by decide)]; exact g2 e he
  · intro b t' hb ht'
    rw [up_cell (by decide)]; exact w13 b t' hb (by omega)
  · intro b hb
    refine AgG_cg (w15 b hb trivial) (by omega) (fun i _ => rfl) rfl rfl rfl (fun _ _ _ _ => up_cell (by omega)) (fun _ _ _ => ⟨up_cell (by decide), up_cell (by decide)⟩) (fun _ _ => trivial) (fun _ _ => trivial) ?_
    rintro s ⟨q, -⟩
    show False
    omega
  · intro b e hb he qb qe hbe
    rw [up_cell (by decide), up_cell (by decide), up_cell (by decide), up_cell (by decide), up_cell (by decide), up_cell (by decide)]
    exact w16 b e hb he qb qe hbe
theorem tick_sp {ρ : St} {A N : Nat} {f : Nat → Nat} {cx : Nat → List Bool} {cd : Nat → Nat} {t : Nat} {τ τm : St} (hB : Base ρ A N f cx cd) (h : Bd ρ A N f cx cd t τ τm) (ht : t < 96) :
    ∃ τ' τm', m_X8_perform_L69 (A : Int) (t : Int) τ = some (.inl (((t + 1 : Nat) : Int), τ')) ∧ m_X12_run_L294 τm = some (.inl τm') ∧ Bd ρ A N f cx cd (t + 1) τ' τm' := by
  have hB' := hB
  obtain ⟨⟨bT, bN, bA⟩, ⟨b6, hA, -⟩, -⟩ := hB'
  have hS := bd_std hA h ht
  have hm35 : ∀ τ τm : St, FrW ρ τ τm → τm 170 35 = (A : Int) := fun τ τm w => by rw [fr_s w (by omega), bA.1.1, b6]
  obtain ⟨τ1, τm1, o1, o2, hW⟩ := Hp2_up (Q := fun x y => Wld ρ A N f cx cd t 0 (fun _ => True) x y) (f := fun a => m_X8_perform_L83 (A : Int) (t : Int) a.1 a.2) (g := fun a => m_X12_tick_L2 a.1 a.2) (a := ((0 : Int), up τ 129 12 (t : Int))) (c := ((0 : Int), τm)) (fun j x y => x.1 = (j : Int) ∧ y.1 = (j : Int) ∧ Std ρ A N f cx cd t j (8 * t + j) x.2 y.2) 0 A (by omega) (Nat.zero_le _) ⟨rfl, rfl, hS⟩ (by
      rintro j ⟨x, σ⟩ ⟨y, σm⟩ - hj ⟨e1, e2, e3⟩
      simp only at e1 e2 e3
      subst e1; subst e2
      obtain ⟨τ', τm', k1, k2, k3⟩ := step_2 hB e3 hj
      exact ⟨(((j + 1 : Nat) : Int), τ'), (((j + 1 : Nat) : Int), τm'), k1, k2, rfl, rfl, k3⟩) (by
      rintro ⟨x, σ⟩ ⟨y, σm⟩ ⟨e1, e2, e3⟩
      simp only at e1 e2 e3
      subst e1; subst e2
      refine ⟨σ, σm, ?_, ?_, std_wld hA e3⟩
      · simp only [m_X8_perform_L83]
        rw [if_pos (by omega)]
      · simp only [m_X12_tick_L2]
        rw [if_pos (by rw [hm35 _ _ e3.1.1]; omega)])
  obtain ⟨τ2, τm2, o3, o4, hW2⟩ := Hp2_up (Q := fun x y => Wld ρ A N f cx cd t A (fun _ => True) x y) (f := fun a => m_X8_perform_L115 (A : Int) a.1 a.2) (g := fun a => m_X12_tick_L143 a.1 a.2) (a := ((0 : Int), τ1)) (c := ((0 : Int), τm1)) (fun j x y => x.1 = (j : Int) ∧ y.1 = (j : Int) ∧ Wld ρ A N f cx cd t j (fun _ => True) x.2 y.2) 0 A (by omega) (Nat.zero_le _) ⟨rfl, rfl, hW⟩ (by
      rintro j ⟨x, σ⟩ ⟨y, σm⟩ - hj ⟨e1, e2, e3⟩
      simp only at e1 e2 e3
      subst e1; subst e2
      obtain ⟨τ', τm', k1, k2, k3⟩ := turn_sp hB hj e3
      have w2 : σm 170 71 = (t : Int) := e3.1.2.1.1.2.1
      have pl : m_X12_placeNow (j : Int) σm = some (σm 201 (96 * j + t)) := by
        rw [m_X12_placeNow, w2, ix96 (by omega) (by omega), rd_ok (by omega) (by omega), bnd_s, Int.toNat_natCast]
      refine ⟨(((j + 1 : Nat) : Int), τ'), (((j + 1 : Nat) : Int), τm'), ?_, ?_, rfl, rfl, k3⟩
      · simp only [m_X8_perform_L115]
        rw [if_neg (by omega), rr_ok (by omega) (by omega), bnd_s, Int.toNat_natCast, rf_ag (by omega), k1, bnd_s, nx1 (by omega)]
      · simp only [m_X12_tick_L143]
        rw [if_neg (by rw [hm35 _ _ e3.1.1]; omega), pl, bnd_s]
        rcases k2 with ⟨q1, q2⟩ | ⟨q1, q2⟩
        · rw [if_pos q1, nx1 (by omega), q2]
        · rw [if_neg q1, q2, bnd_s, nx1 (by omega)]) (by
      rintro ⟨x, σ⟩ ⟨y, σm⟩ ⟨e1, e2, e3⟩
      simp only at e1 e2 e3
      subst e1; subst e2
      refine ⟨σ, σm, ?_, ?_, e3⟩
      · simp only [m_X8_perform_L115]
        rw [if_pos (by omega)]
      · simp only [m_X12_tick_L143]
        rw [if_pos (by rw [hm35 _ _ e3.1.1]; omega)])
  refine ⟨τ2, up τm2 170 71 ((t + 1 : Nat) : Int), ?_, ?_, wld_bd hA hW2⟩
  · rw [m_X8_perform_L69, if_neg (by omega), pt_s, bnd_s, o1, bnd_s, o3, bnd_s, nx1 (by omega)]
  · have w2 : τm2 170 71 = (t : Int) := hW2.1.2.1.1.2.1
    rw [m_X12_run_L294, h.1.2.1.1, if_neg (by omega), m_X12_tick, o2, bnd_s, o4, bnd_s, bnd_s, pt_s, bnd_s, w2, nx1 (by omega)]
/-- all the ticks of a run -/
theorem ticks_sp {ρ : St} {A N : Nat} {f : Nat → Nat} {cx : Nat → List Bool} {cd : Nat → Nat} {τ τm : St} (hB : Base ρ A N f cx cd) (h : Bd ρ A N f cx cd 0 τ τm) :
    Hp2 (lp (fun a => m_X8_perform_L69 (A : Int) a.1 a.2) (0, τ)) (lp (fun a => m_X12_run_L294 a) τm) (fun τ' τm' => Bd ρ A N f cx cd 96 τ' τm') := by
  refine Hp2_up (fun j (x : Int × St) (y : St) => x.1 = (j : Int) ∧ Bd ρ A N f cx cd j x.2 y) 0 96 (by omega) (by omega) ⟨rfl, h⟩ ?_ ?_
  · rintro j ⟨x, σ⟩ σm - hj ⟨e1, e2⟩
    simp only at e1 e2
    subst e1
    obtain ⟨τ', τm', k1, k2, k3⟩ := tick_sp hB e2 hj
    exact ⟨(((j + 1 : Nat) : Int), τ'), τm', k1, k2, rfl, k3⟩
  · rintro ⟨x, σ⟩ σm ⟨e1, e2⟩
    simp only at e1 e2
    subst e1
    refine ⟨σ, σm, ?_, ?_, e2⟩
    · simp only [m_X8_perform_L69]
      rw [if_pos (by decide)]
    · simp only [m_X12_run_L294]
      rw [e2.1.2.1.1, if_pos (by decide)]
