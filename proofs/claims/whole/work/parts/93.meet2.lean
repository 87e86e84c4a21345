/-! MEET, the deed -/
theorem dl_15 {ρ : St} {A N : Nat} {f : Nat → Nat} {cx : Nat → List Bool} {cd : Nat → Nat} {t a s p x y tt : Nat} {l : List (Nat × Nat)} {τ τm : St} (hB : Base ρ A N f cx cd) (ha : a < A) (hW : Wld ρ A N f cx cd t (a + 1) (fun b => b ≠ a) τ τm) (hAt : AtS ρ N a A f cx cd τ τm p l) (hO : Own ρ t a τ τm s)
    (h23 : ρ 23 p = 15) (h24 : ρ 24 p = (x : Int)) (hx : x ≤ 7) (h25 : ρ 25 p = (y : Int)) (hy : y ≤ 95) (h183 : ρ 183 (f p) = (y : Int)) (hs : Sc N f cd p) (hcx : cx (p + 1) = false :: cx p) (hT : Tg N cx cd (ρ 27 p) p tt (cx p)) (h184 : ρ 184 (f p) = (f tt : Int)) :
    Hp2 ((rd τ 25 512 (p : Int)).bind fun x31 => (m_X8_waitsToMeet (a : Int) (39 + 7 * a) (x : Int) x31 τ).bind fun (x32, σ33) => some (x32, σ33))
      ((wt (up τm 212 a ((f p + 1 : Nat) : Int)) 217 8 (a : Int) (x : Int)).bind fun σ77 => (rd σ77 183 2000 (f p : Int)).bind fun x79 => (wt σ77 216 8 (a : Int) (wr (σ77 170 71 + x79))).bind fun σ80 => (m_X12_comesAbout (a : Int) (x : Int) σ80).bind fun (x81, σ82) => (if x81 = 0 then (rd σ82 183 2000 (f p : Int)).bind fun x84 => (if x84 = 0 then (rd σ82 184 2000 (f p : Int)).bind fun x88 => (wt σ82 212 8 (a : Int) x88).bind fun σ89 => some σ89 else (wt σ82 212 8 (a : Int) (f p : Int)).bind fun σ86 => (wt σ86 211 8 (a : Int) 2).bind fun σ87 => some σ87) else (m_X12_pushes (a : Int) 2 (x : Int) σ82).bind fun σ90 => some σ90)) (Out ρ A N f cx cd t a s) := by
  have hB' := hB
  obtain ⟨⟨-, -, bA⟩, ⟨b6, hA, -⟩, ⟨L, c, hL, b17, b7, b8, bP⟩, -⟩ := hB'
  obtain ⟨⟨w0, ⟨⟨w1, w2, w3⟩, w4⟩, -⟩, ⟨-, -, -, -, w12, w13, w14⟩, w15, -⟩ := id hW
  have hAt' := hAt
  obtain ⟨a1, a2, a3, a4, a5, a6, a7, d, a8⟩ := hAt'
  have hfb := f_bd bP hL a1
  obtain ⟨⟨n1, n2, n3, n4⟩, P1, P2, P3⟩ := id bP
  have hlen := Stk_len (A := A) (cx := cx) (cd := cd) (fun p hp => (P1 p hp).2.2.1) (fun p hp => by have := (P1 p hp).2.1; omega) _ p l a1 a8
  obtain ⟨s1, s2, s3⟩ := hs
  obtain ⟨t1, t2, t3, t4⟩ := hT
  obtain ⟨⟨⟨k1, k2⟩, k3, k4⟩, k5, ⟨k6, k7⟩, k8, k9, k10, k11⟩ := id hO
  -- the model's state ahead of the look for the other
  obtain ⟨τ5, h5⟩ : ∃ τ5, τ5 = up (up (up τm 212 a ((f p + 1 : Nat) : Int)) 217 a (x : Int)) 216 a ((t : Int) + (y : Int)) := ⟨_, rfl⟩
  have g5 : ∀ k j, ¬ ((k = 212 ∨ k = 217 ∨ k = 216) ∧ j = a) → τ5 k j = τm k j := by
    intro k j n
    rw [h5]
    by_cases hj : j = a
    · rw [up_cell (by omega), up_cell (by omega), up_cell (by omega)]
    · rw [up_slot hj, up_slot hj, up_slot hj]
  have g212 : τ5 212 a = ((f p + 1 : Nat) : Int) := by rw [h5]; simp (disch := omega) only [up_eq, up_cell, up_slot]
  have g217 : τ5 217 a = (x : Int) := by rw [h5]; simp (disch := omega) only [up_eq, up_cell, up_slot]
  have g216 : τ5 216 a = (t : Int) + (y : Int) := by rw [h5]; simp (disch := omega) only [up_eq, up_cell, up_slot]
  have L5 : LocM a τm τ5 := fun k j q1 q2 q3 => g5 k j (by omega)
  have W5 := Wld_loc ha hA hW LocC_rf L5
  have e183 : (up (up τm 212 a ((f p + 1 : Nat) : Int)) 217 a (x : Int)) 183 (f p) = (y : Int) := by rw [up_cell (by decide), up_cell (by decide), fr_m w0 (by omega)]; exact h183
  have e71 : (up (up τm 212 a ((f p + 1 : Nat) : Int)) 217 a (x : Int)) 170 71 = (t : Int) := by rw [up_cell (by decide), up_cell (by decide)]; exact w2
  have f183 : τ5 183 (f p) = (y : Int) := by rw [g5 _ _ (by omega), fr_m w0 (by omega)]; exact h183
  have f184 : τ5 184 (f p) = (f tt : Int) := by rw [g5 _ _ (by omega), fr_m w0 (by omega)]; exact h184
  have f35 : τ5 170 35 = (A : Int) := by rw [g5 _ _ (by omega), fr_s w0 (by omega), bA.1.1, b6]
  have f71 : τ5 170 71 = (t : Int) := by rw [g5 _ _ (by omega)]; exact w2
  rw [rd_ok (by omega) (by omega), bnd_s, Int.toNat_natCast, fr_c w0 (show 25 < 39 by omega), h25]
  rw [wt_ok (by omega) (by omega), bnd_s, Int.toNat_natCast, rd_ok (by omega) (by omega), bnd_s, Int.toNat_natCast, e183, e71, wr_id' (by omega) (by omega), wt_ok (by omega) (by omega), bnd_s, Int.toNat_natCast, ← h5]
  rw [m_X8_waitsToMeet]
  -- whether the class finds the other as the model does
  have key : x < 8 → x ≠ a → (CA A a x t τ5 ↔ τ (39 + 7 * x) 6 = (a : Int) ∧ τ (43 + 7 * x) t = (s : Int)) := by
    intro hx8 hxa
    constructor
    · rintro ⟨c1, c2, c3, c4, c5⟩
      have hg := ag_six (a := a) (w15 x c1 hxa)
      rw [g5 _ _ (by omega)] at c4 c5
      rw [g5 _ _ (by omega), g5 _ _ (by omega), k11] at c3
      exact ⟨hg.1.mpr ⟨c4, c5⟩, by rw [← w13 x t c1 (by omega)]; exact c3⟩
    · rintro ⟨q1, q2⟩
      by_cases hxA : x < A
      · have hg := ag_six (a := a) (w15 x hxA hxa)
        obtain ⟨c4, c5⟩ := hg.1.mp q1
        refine ⟨hxA, hxa, ?_, ?_, ?_⟩
        · rw [g5 _ _ (by omega), g5 _ _ (by omega), k11, w13 x t hxA (by omega)]; exact q2
        · rw [g5 _ _ (by omega)]; exact c4
        · rw [g5 _ _ (by omega)]; exact c5
      · have := (w14 x (by omega) hx8).1
        omega
  -- where it isn't met
  have nomeet : ¬ CA A a x t τ5 → Hp2 ((m_X8_waitsToMeet_J71 (y : Int) τ (39 + 7 * a) (x : Int)).bind fun (x32, σ33) => some (x32, σ33)) ((m_X12_comesAbout (a : Int) (x : Int) τ5).bind fun (x81, σ82) => (if x81 = 0 then (rd σ82 183 2000 (f p : Int)).bind fun x84 => (if x84 = 0 then (rd σ82 184 2000 (f p : Int)).bind fun x88 => (wt σ82 212 8 (a : Int) x88).bind fun σ89 => some σ89 else (wt σ82 212 8 (a : Int) (f p : Int)).bind fun σ86 => (wt σ86 211 8 (a : Int) 2).bind fun σ87 => some σ87) else (m_X12_pushes (a : Int) 2 (x : Int) σ82).bind fun σ90 => some σ90)) (Out ρ A N f cx cd t a s) := by
    intro hn
    rw [comes_no (by omega) (by omega) f35 f71 w3 hn, bnd_s]
    show Hp2 _ (if (0 : Int) = 0 then (rd τ5 183 2000 (f p : Int)).bind fun x84 => (if x84 = 0 then (rd τ5 184 2000 (f p : Int)).bind fun x88 => (wt τ5 212 8 (a : Int) x88).bind fun σ89 => some σ89 else (wt τ5 212 8 (a : Int) (f p : Int)).bind fun σ86 => (wt σ86 211 8 (a : Int) 2).bind fun σ87 => some σ87) else (m_X12_pushes (a : Int) 2 (x : Int) τ5).bind fun σ90 => some σ90) _
    rw [if_pos (show (0 : Int) = 0 from rfl), rd_ok (by omega) (by omega), bnd_s, Int.toNat_natCast, f183, m_X8_waitsToMeet_J71]
    by_cases hz : y = 0
    · subst hz
      rw [if_neg (by decide), if_pos (by decide), a2, target_eq (n := N) (σ := ρ) (by rw [fr_c w0 (by omega)]; exact b7) n1 a1 (fr_c w0 (by omega)), bnd_s, t1, pt_s, bnd_s, bnd_s, rd_ok (by omega) (by omega), bnd_s, Int.toNat_natCast, f184, wt_ok (by omega) (by omega), bnd_s, Int.toNat_natCast, Hp2_some]
      refine fin_run (d := d) (l' := l) ha hA W5 ?_ a6 ?_ (LocC_up LocC_rf (by omega)) (LocM_up LocM_rf (by omega)) (fun j hj => up_slot hj) (fun k j q1 _ _ _ => up_cell q1) t2 (up_eq ..) (up_eq ..) ?_ ?_ (Stk_same t3 t4 a8)
      · exact Own_cg hO (fun _ _ => rfl) (fun k hk => g5 _ _ (by omega)) (g5 _ _ (by omega))
      · rw [g5 _ _ (by omega)]; exact a7
      · exact FrC_cg a4 (up_cell (by omega)) (funext fun i => up_cell (by omega)) (funext fun i => up_cell (by omega))
      · exact FrM_cg2 a5 (by rw [up_cell (by omega)]; exact g5 _ _ (by omega)) (fun i _ _ => ⟨by rw [up_cell (by omega)]; exact g5 _ _ (by omega), by rw [up_cell (by omega)]; exact g5 _ _ (by omega)⟩)
    · rw [if_pos (by omega), if_neg (by omega), pt_s, bnd_s, pt_s, bnd_s, bnd_s, up_cell (by omega), w1, wr_id' (by omega) (by omega), wt_ok (by omega) (by omega), bnd_s, Int.toNat_natCast, wt_ok (by omega) (by omega), bnd_s, Int.toNat_natCast, Hp2_some]
      refine out_time (Wld_in (Wld_loc ha hA W5 (LocC_up (LocC_up LocC_rf (by omega)) (by omega)) (LocM_up (LocM_up LocM_rf (by omega)) (by omega))) ?_ ?_) (by rw [up_eq]; decide)
      · refine ⟨s, ⟨?_, k2⟩, ⟨?_, ?_⟩, Or.inr ⟨?_, p, l, ⟨a1, ?_, ?_⟩, ⟨?_, ?_, d, a8⟩, Or.inr (Or.inr (Or.inl ⟨up_eq .., ?_, ⟨?_, ?_, ?_, h23, ?_⟩, ?_, ?_, ?_, ?_⟩))⟩⟩
        · simp (disch := omega) only [up_eq, up_cell, up_slot]; rw [g5 _ _ (by omega)]; exact k1
        · simp (disch := omega) only [up_eq, up_cell, up_slot]; rw [g5 _ _ (by omega)]; exact k3
        · simp (disch := omega) only [up_eq, up_cell, up_slot]; rw [g5 _ _ (by omega)]; exact k4
        · simp (disch := omega) only [up_eq, up_cell, up_slot]; exact a6
        · simp (disch := omega) only [up_eq, up_cell, up_slot]; exact a2
        · simp (disch := omega) only [up_eq, up_cell, up_slot]
        · exact FrC_cg a4 (by rw [up_cell (by omega), up_cell (by omega)]) (funext fun i => by rw [up_cell (by omega), up_cell (by omega)]) (funext fun i => by rw [up_cell (by omega), up_cell (by omega)])
        · exact FrM_cg2 a5 (by rw [up_cell (by omega), up_cell (by omega)]; exact g5 _ _ (by omega)) (fun i _ _ => ⟨by rw [up_cell (by omega), up_cell (by omega)]; exact g5 _ _ (by omega), by rw [up_cell (by omega), up_cell (by omega)]; exact g5 _ _ (by omega)⟩)
        · simp (disch := omega) only [up_eq, up_cell, up_slot]; exact k5
        · simp (disch := omega) only [up_eq, up_cell, up_slot]; exact g217.symm
        · simp (disch := omega) only [up_eq, up_cell, up_slot]; exact g216.symm
        · simp (disch := omega) only [up_eq, up_cell, up_slot]; exact k7
        · simp (disch := omega) only [up_eq, up_cell, up_slot]; rw [g217]; exact h24
        · simp (disch := omega) only [up_eq, up_cell, up_slot]; exact k8
        · simp (disch := omega) only [up_eq, up_cell, up_slot]; exact k9
        · simp (disch := omega) only [up_eq, up_cell, up_slot]; exact k10
        · simp (disch := omega) only [up_eq, up_cell, up_slot]; rw [g5 _ _ (by omega)]; exact k11
      · intro _ e he hea q1 q2 q3
        rw [up_slot hea, up_cell (by omega)] at q1
        rw [up_cell (by omega), up_cell (by omega)] at q2 q3
        rw [up_cell (by omega), up_cell (by omega), up_cell (by omega), up_cell (by omega), g5 _ _ (by omega), g5 _ _ (by omega)]
        have hex : e = x := by rw [g217] at q2; omega
        subst hex
        intro q4
        refine hn ⟨he, hea, ?_, q1, q3⟩
        rw [g5 _ _ (by omega), g5 _ _ (by omega)]
        rw [g5 _ _ (by omega)] at q1
        rw [(ag_six (a := a) (w15 e he hea)).2 q1, k11, ← q4]
        exact k1
  by_cases hxa : x = a
  · rw [if_pos (by omega)]
    exact nomeet (fun q => q.2.1 hxa)
  · rw [if_neg (by omega), isAgent_c (by omega), bnd_s, if_neg (show ¬ (1 : Int) = 0 by decide), rr_ok (by omega) (by omega), bnd_s, Int.toNat_natCast, rf_ag (by omega)]
    have kx := key (by omega) hxa
    by_cases h6 : τ (39 + 7 * x) 6 = (a : Int)
    · rw [if_pos h6, placeOf_c (by omega) w1 w3, bnd_s, k8]
      by_cases h7 : τ (43 + 7 * x) t = (s : Int)
      · have hCA := kx.mpr ⟨h6, h7⟩
        obtain ⟨c1, c2, c3, c4, c5⟩ := id hCA
        rw [if_pos h7, bnd_s, pt_s, bnd_s, bnd_s, pt_s, bnd_s, comes_yes ha hA f35 f71 w3 hCA, bnd_s]
        show Hp2 _ (if (1 : Int) = 0 then _ else _) _
        rw [if_neg (show ¬ (1 : Int) = 0 by decide)]
        have W6 := Wld_meet hA W5 ha c1 c2 c4 c5
        -- the meeting written down, on both sides
        have hnote : ∃ τ7 τm7, m_X8_noteMeeting (a : Int) (x : Int) (up (up τ (39 + 7 * x) 6 (-1)) (39 + 7 * x) 8 (a : Int)) = some τ7 ∧ (if τ5 207 (8 * a + x) = -1 then up (up (up τ5 211 x 3) 207 (8 * a + x) (t : Int)) 207 (8 * x + a) (t : Int) else up τ5 211 x 3) = τm7 ∧ Wld ρ A N f cx cd t (a + 1) (fun b => b ≠ a) τ7 τm7 ∧ (∀ k j, (k < 133 ∨ 140 < k) → τ7 k j = (up (up τ (39 + 7 * x) 6 (-1)) (39 + 7 * x) 8 (a : Int)) k j) ∧ (∀ k j, k ≠ 207 → τm7 k j = (up τ5 211 x 3) k j) := by
          have e1 := (w12 a ha).2 x c1
          have e2 : (up (up τ (39 + 7 * x) 6 (-1)) (39 + 7 * x) 8 (a : Int)) (133 + a) x = τm 207 (8 * a + x) := by rw [up_cell (by omega), up_cell (by omega)]; exact e1.symm
          have e3 : τ5 207 (8 * a + x) = τm 207 (8 * a + x) := g5 _ _ (by omega)
          rw [m_X8_noteMeeting, isAgent_c (by omega), bnd_s, if_neg (show ¬ (1 : Int) = 0 by decide), isAgent_c (by omega), bnd_s, if_neg (show ¬ (1 : Int) = 0 by decide), rr_ok (by omega) (by omega), bnd_s, Int.toNat_natCast, rf_met (by omega), rd_ok (by omega) (by omega), bnd_s, Int.toNat_natCast, e2, e3]
          by_cases hz : τm 207 (8 * a + x) = -1
          · have e4 : (up (up τ (39 + 7 * x) 6 (-1)) (39 + 7 * x) 8 (a : Int)) 129 12 = (t : Int) := by rw [up_cell (by omega), up_cell (by omega)]; exact w1
            rw [if_pos hz, if_pos hz, bnd_s, wt_ok (by omega) (by omega), bnd_s, Int.toNat_natCast, e4, rr_ok (by omega) (by omega), bnd_s, Int.toNat_natCast, rf_met (by omega), wt_ok (by omega) (by omega), bnd_s, Int.toNat_natCast, up_cell (by omega), e4]
            exact ⟨_, _, rfl, rfl, Wld_note hA W6 ha c1 c2, fun k j h => by rw [up_cell (by omega), up_cell (by omega)], fun k j h => by rw [up_cell h, up_cell h]⟩
          · rw [if_neg hz, if_neg hz]
            exact ⟨_, _, rfl, rfl, W6, fun _ _ _ => rfl, fun _ _ _ => rfl⟩
        obtain ⟨τ7, τm7, o1, o2, W7, c7, m7⟩ := hnote
        rw [o1, bnd_s, o2, m_X8_beginFirstDeeds]
        have cc : ∀ k j, k ≠ 39 + 7 * x → (k < 133 ∨ 140 < k) → τ7 k j = τ k j := by
          intro k j q1 q2; rw [c7 k j q2, up_cell q1, up_cell q1]
        have mm : ∀ k j, k ≠ 207 → ¬ (k = 211 ∧ j = x) → ¬ ((k = 212 ∨ k = 217 ∨ k = 216) ∧ j = a) → τm7 k j = τm k j := by
          intro k j q1 q2 q3
          rw [m7 k j q1]
          by_cases h211 : k = 211
          · subst h211; rw [up_slot (by omega)]; exact g5 _ _ q3
          · rw [up_cell h211]; exact g5 _ _ q3
        have hFC : FrC τ7 a l := FrC_cg a4 (cc _ _ (by omega) (by omega)) (funext fun i => cc _ _ (by omega) (by omega)) (funext fun i => cc _ _ (by omega) (by omega))
        have hFM : FrM f τm7 a l := FrM_cg2 a5 (mm _ _ (by omega) (by omega) (by omega)) (fun i _ _ => ⟨mm _ _ (by omega) (by omega) (by omega), mm _ _ (by omega) (by omega) (by omega)⟩)
        obtain ⟨τ8, τm8, p1, p2, ⟨hC8, hM8⟩, ⟨hFC8, hFM8⟩, cc8, mm8⟩ := push_2 (e := (2, x)) (x := 15) (y := (x : Int)) (z := (x : Int)) (by omega) hFC hFM (by omega) rfl (by unfold cvl; rw [if_neg (show ¬ ((2 : Nat) = 1) by decide)]) (by unfold mvl; rw [if_neg (show ¬ ((2 : Nat) = 0) by decide)])
        rw [p1, bnd_s, cc8 4, cc _ _ (by omega) (by omega), a2, nx1 (by omega), pt_s, bnd_s, bnd_s, bnd_s]
        rw [show m_X12_pushes (a : Int) 2 (x : Int) τm7 = some τm8 from p2, bnd_s, Hp2_some]
        refine fin_run (d := d) (l' := (2, x) :: l) (p' := p + 1) ha hA W7 ?_ ?_ ?_ (LocC_up hC8 (by omega)) hM8 ?_ ?_ s1 (up_eq ..) ?_ ?_ hFM8 ?_
        · exact Own_cg hO (fun i _ => cc _ _ (by omega) (by omega)) (fun k hk => mm _ _ (by omega) (by omega) (by omega)) (mm _ _ (by omega) (by omega) (by omega))
        · rw [cc _ _ (by omega) (by omega)]; exact a6
        · rw [mm _ _ (by omega) (by omega) (by omega)]; exact a7
        · intro j hj; rw [up_slot hj]; exact cc8 j
        · intro k j _ q2 q3 q4; exact mm8 k j q2 q3 q4
        · rw [mm8 212 a (by omega) (by omega) (by omega), m7 212 a (by omega), up_cell (by omega), g212, s2]
        · exact FrC_cg hFC8 (up_cell (by omega)) (funext fun i => up_cell (by omega)) (funext fun i => up_cell (by omega))
        · obtain ⟨r, r1, r2⟩ := a8
          refine ⟨r, ?_, by rw [s3]; exact r2⟩
          rw [hcx]
          exact ⟨x, l, rfl, c1, r1⟩
      · rw [if_neg h7]
        exact nomeet (fun q => h7 (kx.mp q).2)
    · rw [if_neg h6]
      exact nomeet (fun q => h6 (kx.mp q).1)
