/-! a turn -/
theorem up_same {τ : St} {k j : Nat} {x : Int} (h : τ k j = x) : up τ k j x = τ := by
  funext c d
  by_cases hc : c = k
  · subst hc
    by_cases hd : d = j
    · subst hd; rw [up_eq, h]
    · rw [up_slot hd]
  · rw [up_cell hc]
theorem Wld_next {ρ : St} {A N : Nat} {f : Nat → Nat} {cx : Nat → List Bool} {cd : Nat → Nat} {t a : Nat} {τ τm : St} (h : Wld ρ A N f cx cd t a (fun b => b ≠ a) τ τm) : Wld ρ A N f cx cd t (a + 1) (fun b => b ≠ a) τ τm := by
  obtain ⟨w1, w2, w3, w4⟩ := h
  refine ⟨w1, w2, ?_, w4⟩
  intro b hb hba
  have hba' : b ≠ a := hba
  refine AgG_cg (w3 b hb hba) (Int.le_refl _) (fun _ _ => rfl) rfl rfl rfl (fun _ _ _ _ => rfl) (fun _ _ _ => ⟨rfl, rfl⟩) (fun _ q => q) ?_ ?_
  · intro s q w; exact q (by omega)
  · rintro s ⟨q1, q2⟩; exact ⟨by omega, q2⟩
theorem ag_next {ρ : St} {A N : Nat} {f : Nat → Nat} {cx : Nat → List Bool} {cd : Nat → Nat} {t j j' a : Nat} {τ τm : St} (h : AgB ρ A N f cx cd t j a τ τm) (h5 : τm 211 a ≠ 5) : AgB ρ A N f cx cd t j' a τ τm := by
  obtain ⟨s, q1, q2, h⟩ := h
  refine ⟨s, q1, q2, ?_⟩
  rcases h with h | ⟨e1, p, l, e2, e3, h⟩
  · exact Or.inl h
  · refine Or.inr ⟨e1, p, l, e2, e3, ?_⟩
    rcases h with h | h | h | h | ⟨m, -⟩
    · exact Or.inl h
    · exact Or.inr (Or.inl h)
    · exact Or.inr (Or.inr (Or.inl h))
    · exact Or.inr (Or.inr (Or.inr (Or.inl h)))
    · exact absurd m h5
theorem j169 {ρ : St} {A N : Nat} {f : Nat → Nat} {cx : Nat → List Bool} {cd : Nat → Nat} {t a s p d : Nat} {l : List (Nat × Nat)} {τ τm : St} (hB : Base ρ A N f cx cd) (ha : a < A) (hW : Wld ρ A N f cx cd t (a + 1) (fun b => b ≠ a) τ τm) (hO : Own ρ t a τ τm s) (h18 : τ (39 + 7 * a) 18 = -1) (h4 : p < N ∧ τ (39 + 7 * a) 4 = (p : Int) ∧ τm 212 a = (f p : Int)) (hC : FrC τ a l) (hM : FrM f τm a l) (hS : Stk A N cx cd (d + 1) p l) :
    Hp2 ((lp (fun z => m_X8_turn_L69 (39 + 7 * a) (a : Int) z.1 z.2) (0, τ)).bind fun b => match b with | .inl σ30 => some σ30 | .inr q => some q) (m_X12_turn_J169 (a : Int) τm) (fun τ' τm' => Wld ρ A N f cx cd t (a + 1) (fun _ => True) τ' τm') := by
  have hA := hB.2.1.2.1
  have hR : RunA ρ A N f cx cd t a s τ (up (up τm 211 a 0) 170 72 0) := by
    refine ⟨Wld_loc ha hA hW LocC_rf (LocM_72 (LocM_up LocM_rf (by omega))), ⟨p, l, h4.1, h4.2.1, ?_, hC, ?_, h18, ?_, d, hS⟩, ?_⟩
    · rw [up_cell (by decide), up_cell (by decide)]; exact h4.2.2
    · exact FrM_cg2 hM (by rw [up_cell (by decide), up_cell (by decide)]) (fun i _ _ => ⟨by rw [up_cell (by decide), up_cell (by decide)], by rw [up_cell (by decide), up_cell (by decide)]⟩)
    · rw [up_cell (by decide), up_eq]
    · refine Own_cg hO (fun _ _ => rfl) ?_ ?_
      · intro k hk; rw [up_cell (by omega), up_cell (by omega)]
      · rw [up_cell (by decide), up_cell (by decide)]
  obtain ⟨r, rm, o1, o2, hq⟩ := loop_sp hB ha hR (up_eq ..)
  rw [o1, bnd_s, m_X12_turn_J169, wt_ok (by omega) (by omega), bnd_s, Int.toNat_natCast, pt_s, bnd_s, o2, bnd_s]
  refine ⟨vs r, vs rm, ?_, ?_, hq⟩
  · cases r <;> rfl
  · cases rm <;> rfl
/-- what a turn gives -/
def Tnr (ρ : St) (A N : Nat) (f : Nat → Nat) (cx : Nat → List Bool) (cd : Nat → Nat) (t a : Nat) (τ τm : St) : Prop :=
  ∃ τ' τm', m_X8_turn (a : Int) (39 + 7 * a) τ = some τ' ∧ ((τm 201 (96 * a + t) = -1 ∧ τm' = τm) ∨ (τm 201 (96 * a + t) ≠ -1 ∧ m_X12_turn (a : Int) τm = some τm')) ∧ Wld ρ A N f cx cd t (a + 1) (fun _ => True) τ' τm'
/-- an agent that stands at its code and is free to go on -/
theorem turn_go {ρ : St} {A N : Nat} {f : Nat → Nat} {cx : Nat → List Bool} {cd : Nat → Nat} {t a s p d : Nat} {l : List (Nat × Nat)} {τ τm : St} (hB : Base ρ A N f cx cd) (ha : a < A) (hW : Wld ρ A N f cx cd t (a + 1) (fun b => b ≠ a) τ τm) (hO : Own ρ t a τ τm s) (h18 : τ (39 + 7 * a) 18 = -1) (h4 : p < N ∧ τ (39 + 7 * a) 4 = (p : Int) ∧ τm 212 a = (f p : Int)) (hC : FrC τ a l) (hM : FrM f τm a l) (hS : Stk A N cx cd (d + 1) p l) :
    Hp2 (m_X8_turn_J34 τ (39 + 7 * a) (a : Int)) (m_X12_turn_J169 (a : Int) τm) (fun τ' τm' => Wld ρ A N f cx cd t (a + 1) (fun _ => True) τ' τm') := by
  obtain ⟨⟨-, ⟨⟨w1, w2, w3⟩, w4⟩, -⟩, -⟩ := id hW
  obtain ⟨⟨⟨k1, k2⟩, k3, k4⟩, k5, ⟨k6, k7⟩, k8, k9, k10, k11⟩ := id hO
  rw [m_X8_turn_J34, pt_s, bnd_s, up_same k10, if_pos h18, w1, if_neg (by omega), m_X8_isFree, if_pos k7, if_pos k6, bnd_s]
  exact j169 hB ha hW hO h18 h4 hC hM hS
theorem turn_sp {ρ : St} {A N : Nat} {f : Nat → Nat} {cx : Nat → List Bool} {cd : Nat → Nat} {t a : Nat} {τ τm : St} (hB : Base ρ A N f cx cd) (ha : a < A) (hW : Wld ρ A N f cx cd t a (fun _ => True) τ τm) : Tnr ρ A N f cx cd t a τ τm := by
  have hB' := hB
  obtain ⟨⟨bT, bN, bA⟩, ⟨b6, hA, -⟩, ⟨L, c, hL, b17, b7, b8, bP⟩, -⟩ := hB'
  have ha8 : a < 8 := by omega
  have hg := hW.2.2.1 a ha trivial
  have hTwo := hW.2.2.2
  have hW1 := Wld_next (Wld_out (a := a) hW)
  have hWall := hW.2.2.1
  obtain ⟨⟨w0, ⟨⟨w1, w2, w3⟩, w4⟩, -⟩, -⟩ := id hW1
  obtain ⟨s, ⟨q1, q2⟩, ⟨q3, q4⟩, h⟩ := id hg
  have rd211 : rd τm 211 8 (a : Int) = some (τm 211 a) := by rw [rd_ok (by omega) (by omega), Int.toNat_natCast]
  -- where nothing happens
  have idle : τm 211 a ≠ 5 → (τm 211 a = 2 → ∀ e : Nat, e < A → e ≠ a → τm 211 e = 2 → τm 217 a = (e : Int) → τm 217 e = (a : Int) → τm 213 a ≠ τm 213 e) → Wld ρ A N f cx cd t (a + 1) (fun _ => True) τ τm := fun h5 h2 => Wld_in hW1 (ag_next hg h5) h2
  have two : τm 211 a = 2 → ∀ e : Nat, e < A → e ≠ a → τm 211 e = 2 → τm 217 a = (e : Int) → τm 217 e = (a : Int) → τm 213 a ≠ τm 213 e := fun g1 e he hea g2 g3 g4 => hTwo a e ha he trivial trivial (fun q => hea q.symm) g1 g2 g3 g4
  -- the model's way to the loop
  have j72 : ∀ τm' : St, τm' 211 a ≠ 2 → τm' 211 a ≠ 3 → m_X12_turn_J72 τm' (a : Int) = m_X12_turn_J169 (a : Int) τm' := by
    intro τm' n2 n3
    have r' : rd τm' 211 8 (a : Int) = some (τm' 211 a) := by rw [rd_ok (by omega) (by omega), Int.toNat_natCast]
    rw [m_X12_turn_J72, r', bnd_s, if_neg n2, m_X12_turn_J137, r', bnd_s, if_neg n3]
  have j38 : ∀ τm' : St, τm' 211 a ≠ 4 → τm' 211 a ≠ 1 → m_X12_turn_J38 (a : Int) τm' = m_X12_turn_J72 τm' (a : Int) := by
    intro τm' n4 n1
    have r' : rd τm' 211 8 (a : Int) = some (τm' 211 a) := by rw [rd_ok (by omega) (by omega), Int.toNat_natCast]
    rw [m_X12_turn_J38, r', bnd_s, if_neg n4, bnd_s, if_neg n1]
  have tn : τm 211 a ≠ 5 → m_X12_turn (a : Int) τm = m_X12_turn_J38 (a : Int) τm := by
    intro n5
    rw [m_X12_turn, rd211, bnd_s, if_neg n5]
  rcases h with ⟨m, h18, ⟨x6, x8⟩, g9, g10, g12, hH⟩ | ⟨h18, p, l, ⟨p1, p2, p3⟩, ⟨f1, f2, d, f3⟩, h⟩
  · -- at its end
    have hH' : τm 201 (96 * a + t) = (s : Int) := hH
    refine ⟨τ, τm, ?_, Or.inr ⟨by omega, ?_⟩, idle (by omega) (fun q => by omega)⟩
    · rw [m_X8_turn, if_pos g10, if_pos g12, m_X8_turn_J34, pt_s, bnd_s, up_same g12, if_neg h18]
    · rw [tn (by omega), m_X12_turn_J38, rd211, bnd_s, if_pos m]
  · rcases h with ⟨m, r, ⟨x6, x8⟩, g9, g10, g12, hH⟩ | ⟨m, r, ⟨x6, x8⟩, g9, g10, g12, hH⟩ | ⟨m, r, ⟨x6, x7, x8, x23, x24⟩, g9, g10, g12, hH⟩ | ⟨m, r, ⟨x6, x23, v, hv, x8, x217⟩, g9, g10, g12, hH⟩ | ⟨m, r, ⟨x6, x8⟩, ⟨g, hgs, g12, g215, hdist⟩, h⟩
    · -- it goes on
      have hH' : τm 201 (96 * a + t) = (s : Int) := hH
      have hO : Own ρ t a τ τm s := ⟨⟨⟨q1, q2⟩, q3, q4⟩, r, ⟨x6, x8⟩, g9, g10, g12, hH'⟩
      obtain ⟨τ', τm', o1, o2, hq⟩ := turn_go hB ha hW1 hO h18 ⟨p1, p2, p3⟩ f1 f2 f3
      refine ⟨τ', τm', ?_, Or.inr ⟨by omega, ?_⟩, hq⟩
      · rw [m_X8_turn, if_pos g10, if_pos g12]; exact o1
      · rw [tn (by omega), j38 _ (by omega) (by omega), j72 _ (by omega) (by omega)]; exact o2
    · -- it waits
      have hH' : τm 201 (96 * a + t) = (s : Int) := hH
      by_cases hz : τm 216 a ≤ (t : Int)
      · have hO : Own ρ t a τ τm s := ⟨⟨⟨q1, q2⟩, q3, q4⟩, by omega, ⟨x6, x8⟩, g9, g10, g12, hH'⟩
        obtain ⟨τ', τm', o1, o2, hq⟩ := turn_go hB ha hW1 hO h18 ⟨p1, p2, p3⟩ f1 f2 f3
        refine ⟨τ', τm', ?_, Or.inr ⟨by omega, ?_⟩, hq⟩
        · rw [m_X8_turn, if_pos g10, if_pos g12]; exact o1
        · rw [tn (by omega), m_X12_turn_J38, rd211, bnd_s, if_neg (by omega), bnd_s, if_pos m, rd_ok (by omega) (by omega), bnd_s, Int.toNat_natCast, w2, if_pos hz, j72 _ (by omega) (by omega)]; exact o2
      · refine ⟨τ, τm, ?_, Or.inr ⟨by omega, ?_⟩, idle (by omega) (fun q => by omega)⟩
        · rw [m_X8_turn, if_pos g10, if_pos g12, m_X8_turn_J34, pt_s, bnd_s, up_same g12, if_pos h18, w1, if_pos (by omega)]
        · rw [tn (by omega), m_X12_turn_J38, rd211, bnd_s, if_neg (by omega), bnd_s, if_pos m, rd_ok (by omega) (by omega), bnd_s, Int.toNat_natCast, w2, if_neg hz]
    · -- it waits for another
      have hH' : τm 201 (96 * a + t) = (s : Int) := hH
      obtain ⟨-, -, -, hOK⟩ := bP.2.1 p p1
      have hmeet : ∃ tt : Nat, 0 ≤ ρ 24 p ∧ ρ 24 p ≤ 7 ∧ Tg N cx cd (ρ 27 p) p tt (cx p) ∧ ρ 184 (f p) = (f tt : Int) := by
        have no : ∀ z : Int, ρ (22 + 1) p = z → z ≠ 15 → False := fun z hz hz' => hz' (hz.symm.trans x23)
        rcases hOK with ⟨k, o, mm, hk, e1, -⟩ | ⟨e1, -⟩ | ⟨e1, -⟩ | ⟨e1, -⟩ | ⟨-, e1, -⟩ | ⟨e1, -, -, e2, e3, -, -, -, -, -, tt, e4, -, e5⟩ | ⟨e1, -⟩ | ⟨e1, -⟩ | ⟨e1, -⟩
        · exact absurd (no _ e1 (by omega)) id
        · exact absurd (no _ e1 (by decide)) id
        · exact absurd (no _ e1 (by decide)) id
        · exact absurd (no _ e1 (by decide)) id
        · exact absurd (no _ e1 (by decide)) id
        · exact ⟨tt, e2, e3, e4, e5⟩
        · exact absurd (no _ e1 (by decide)) id
        · exact absurd (no _ e1 (by decide)) id
        · exact absurd (no _ e1 (by decide)) id
      obtain ⟨tt, v0, v7, ⟨t1, t2, t3, t4⟩, h184⟩ := hmeet
      obtain ⟨v, hv⟩ : ∃ v : Nat, τm 217 a = (v : Int) := ⟨(τm 217 a).toNat, by omega⟩
      have hfb := f_bd bP hL p1
      have f35 : τm 170 35 = (A : Int) := by rw [fr_s w0 (by omega), bA.1.1, b6]
      have hnCA : ¬ CA A a v t τm := by
        rintro ⟨c1, c2, c3, c4, c5⟩
        have h1 := two m v c1 c2 c4 hv c5
        have h2 := (ag_six (a := a) (hWall v c1 trivial)).2 c4
        rw [h2, hH'] at c3
        exact h1 (by omega)
      have hca := comes_no (A := A) ha8 (show v < 8 by omega) f35 w2 w3 hnCA
      have e184 : τm 184 (f p) = (f tt : Int) := by rw [fr_m w0 (by omega)]; exact h184
      have hmod : m_X12_turn (a : Int) τm = (if τm 216 a ≤ (t : Int) then m_X12_turn_J137 (a : Int) (up τm 212 a (f tt : Int)) else some τm) := by
        rw [tn (by omega), j38 _ (by omega) (by omega), m_X12_turn_J72, rd211, bnd_s, if_pos m, rd_ok (by omega) (by omega), bnd_s, Int.toNat_natCast, hv, hca, bnd_s]
        show (if (0 : Int) = 0 then (rd τm 216 8 (a : Int)).bind fun x23 => (if x23 ≤ τm 170 71 then (rd τm 212 8 (a : Int)).bind fun x25 => (rd τm 184 2000 x25).bind fun x26 => (wt τm 212 8 (a : Int) x26).bind fun σ27 => m_X12_turn_J137 (a : Int) σ27 else some τm) else _) = _
        rw [if_pos rfl, rd_ok (by omega) (by omega), bnd_s, Int.toNat_natCast, w2, rd_ok (by omega) (by omega), bnd_s, Int.toNat_natCast, p3, rd_ok (by omega) (by omega), bnd_s, Int.toNat_natCast, e184, wt_ok (by omega) (by omega), bnd_s, Int.toNat_natCast]
      by_cases hz : τm 216 a ≤ (t : Int)
      · rw [if_pos hz] at hmod
        have hW2 : Wld ρ A N f cx cd t (a + 1) (fun b => b ≠ a) (up (up τ (39 + 7 * a) 6 (-1)) (39 + 7 * a) 4 (tt : Int)) (up τm 212 a (f tt : Int)) := Wld_loc ha hA hW1 (LocC_up (LocC_up LocC_rf (by omega)) (by omega)) (LocM_up LocM_rf (by omega))
        have hO2 : Own ρ t a (up (up τ (39 + 7 * a) 6 (-1)) (39 + 7 * a) 4 (tt : Int)) (up τm 212 a (f tt : Int)) s := by
          refine ⟨⟨⟨?_, q2⟩, ?_, ?_⟩, ?_, ⟨?_, ?_⟩, ?_, ?_, ?_, ?_⟩
          · simp (disch := omega) only [up_eq, up_cell, up_slot]; exact q1
          · simp (disch := omega) only [up_eq, up_cell, up_slot]; exact q3
          · simp (disch := omega) only [up_eq, up_cell, up_slot]; exact q4
          · simp (disch := omega) only [up_eq, up_cell, up_slot]; exact r
          · simp (disch := omega) only [up_eq, up_cell, up_slot]
          · simp (disch := omega) only [up_eq, up_cell, up_slot]; exact x8
          · simp (disch := omega) only [up_eq, up_cell, up_slot]; exact g9
          · simp (disch := omega) only [up_eq, up_cell, up_slot]; exact g10
          · simp (disch := omega) only [up_eq, up_cell, up_slot]; exact g12
          · simp (disch := omega) only [up_eq, up_cell, up_slot]; exact hH'
        obtain ⟨τ', τm', o1, o2, hq⟩ := j169 (l := l) (p := tt) (d := d) hB ha hW2 hO2 (by rw [up_slot (by omega), up_slot (by omega)]; exact h18) ⟨t2, up_eq .., up_eq ..⟩ (FrC_cg f1 (by rw [up_cell (by omega), up_cell (by omega)]) (funext fun i => by rw [up_cell (by omega), up_cell (by omega)]) (funext fun i => by rw [up_cell (by omega), up_cell (by omega)])) (FrM_cg2 f2 (up_cell (by omega)) (fun i _ _ => ⟨up_cell (by omega), up_cell (by omega)⟩)) (Stk_same t3 t4 f3)
        refine ⟨τ', τm', ?_, Or.inr ⟨by omega, ?_⟩, hq⟩
        · have htg : m_X8_targetOf (p : Int) (up τ (39 + 7 * a) 6 (-1)) = some (tt : Int) := by
            rw [target_eq (n := N) (σ := ρ) (by rw [up_cell (by omega), fr_c w0 (by omega)]; exact b7) bP.1.1 p1 (funext fun i => by rw [up_cell (by omega), fr_c w0 (by omega)]), t1]
          rw [m_X8_turn, if_pos g10, if_pos g12, m_X8_turn_J34, pt_s, bnd_s, up_same g12, if_pos h18, w1, if_neg (by omega), m_X8_isFree, if_pos x8, if_neg (by omega), w1, if_pos (by omega), pt_s, bnd_s, up_slot (by omega), p2, htg, bnd_s, pt_s, bnd_s, bnd_s]
          exact o1
        · rw [hmod, m_X12_turn_J137, rd_ok (by omega) (by omega), bnd_s, Int.toNat_natCast, up_cell (by decide), m, if_neg (by decide)]
          exact o2
      · rw [if_neg hz] at hmod
        refine ⟨τ, τm, ?_, Or.inr ⟨by omega, hmod⟩, idle (by omega) two⟩
        rw [m_X8_turn, if_pos g10, if_pos g12, m_X8_turn_J34, pt_s, bnd_s, up_same g12, if_pos h18, w1, if_neg (by omega), m_X8_isFree, if_pos x8, if_neg (by omega), w1, if_neg (by omega), bnd_s]
        exact if_pos rfl
    · -- it was met
      have hH' : τm 201 (96 * a + t) = (s : Int) := hH
      have hlen := Stk_len (A := A) (cx := cx) (cd := cd) (fun p hp => (bP.2.1 p hp).2.2.1) (fun p hp => by have := (bP.2.1 p hp).2.1; have := bP.1.2.1; omega) _ p l p1 f3
      obtain ⟨-, -, -, hOK⟩ := bP.2.1 p p1
      have hmeet : Sc N f cd p ∧ cx (p + 1) = false :: cx p := by
        have no : ∀ z : Int, ρ (22 + 1) p = z → z ≠ 15 → False := fun z hz hz' => hz' (hz.symm.trans x23)
        rcases hOK with ⟨k, o, mm, hk, e1, -⟩ | ⟨e1, -⟩ | ⟨e1, -⟩ | ⟨e1, -⟩ | ⟨-, e1, -⟩ | ⟨e1, -, -, e2, e3, -, -, -, e4, e5, -⟩ | ⟨e1, -⟩ | ⟨e1, -⟩ | ⟨e1, -⟩
        · exact absurd (no _ e1 (by omega)) id
        · exact absurd (no _ e1 (by decide)) id
        · exact absurd (no _ e1 (by decide)) id
        · exact absurd (no _ e1 (by decide)) id
        · exact absurd (no _ e1 (by decide)) id
        · exact ⟨e4, e5⟩
        · exact absurd (no _ e1 (by decide)) id
        · exact absurd (no _ e1 (by decide)) id
        · exact absurd (no _ e1 (by decide)) id
      obtain ⟨⟨s1, s2, s3⟩, hcx⟩ := hmeet
      have hfb := f_bd bP hL p1
      obtain ⟨τ8, τm8, o1, o2, ⟨hC8, hM8⟩, ⟨hFC8, hFM8⟩, cc8, mm8⟩ := push_2 (e := (2, v)) (x := 15) (y := (v : Int)) (z := (v : Int)) ha8 f1 f2 (by omega) rfl (by unfold cvl; rw [if_neg (show ¬ ((2 : Nat) = 1) by decide)]) (by unfold mvl; rw [if_neg (show ¬ ((2 : Nat) = 0) by decide)])
      have o2' : m_X12_pushes (a : Int) 2 (v : Int) τm = some τm8 := o2
      have hW2 : Wld ρ A N f cx cd t (a + 1) (fun b => b ≠ a) (up (up τ8 (39 + 7 * a) 4 ((p + 1 : Nat) : Int)) (39 + 7 * a) 8 (-1)) (up τm8 212 a ((f p + 1 : Nat) : Int)) := Wld_loc ha hA hW1 (LocC_up (LocC_up hC8 (by omega)) (by omega)) (LocM_up hM8 (by omega))
      have hO2 : Own ρ t a (up (up τ8 (39 + 7 * a) 4 ((p + 1 : Nat) : Int)) (39 + 7 * a) 8 (-1)) (up τm8 212 a ((f p + 1 : Nat) : Int)) s := by
        refine ⟨⟨⟨?_, q2⟩, ?_, ?_⟩, ?_, ⟨?_, ?_⟩, ?_, ?_, ?_, ?_⟩
        · simp (disch := omega) only [up_eq, up_cell, up_slot, cc8, mm8]; exact q1
        · simp (disch := omega) only [up_eq, up_cell, up_slot, cc8, mm8]; exact q3
        · simp (disch := omega) only [up_eq, up_cell, up_slot, cc8, mm8]; exact q4
        · simp (disch := omega) only [up_eq, up_cell, up_slot, cc8, mm8]; exact r
        · simp (disch := omega) only [up_eq, up_cell, up_slot, cc8, mm8]; exact x6
        · simp (disch := omega) only [up_eq, up_cell, up_slot, cc8, mm8]
        · simp (disch := omega) only [up_eq, up_cell, up_slot, cc8, mm8]; exact g9
        · simp (disch := omega) only [up_eq, up_cell, up_slot, cc8, mm8]; exact g10
        · simp (disch := omega) only [up_eq, up_cell, up_slot, cc8, mm8]; exact g12
        · simp (disch := omega) only [up_eq, up_cell, up_slot, cc8, mm8]; exact hH'
      have hS2 : Stk A N cx cd (d + 1) (p + 1) ((2, v) :: l) := by
        obtain ⟨rr, r1, r2⟩ := f3
        refine ⟨rr, ?_, by rw [s3]; exact r2⟩
        rw [hcx]
        exact ⟨v, l, rfl, hv, r1⟩
      obtain ⟨τ', τm', o3, o4, hq⟩ := j169 (l := (2, v) :: l) (p := p + 1) (d := d) hB ha hW2 hO2 (by rw [up_slot (by omega), up_slot (by omega), cc8]; exact h18) ⟨s1, by rw [up_slot (by omega), up_eq], by rw [up_eq, s2]⟩ (FrC_cg hFC8 (by rw [up_cell (by omega), up_cell (by omega)]) (funext fun i => by rw [up_cell (by omega), up_cell (by omega)]) (funext fun i => by rw [up_cell (by omega), up_cell (by omega)])) (FrM_cg2 hFM8 (up_cell (by omega)) (fun i _ _ => ⟨up_cell (by omega), up_cell (by omega)⟩)) hS2
      refine ⟨τ', τm', ?_, Or.inr ⟨by omega, ?_⟩, hq⟩
      · rw [m_X8_turn, if_pos g10, if_pos g12, m_X8_turn_J34, pt_s, bnd_s, up_same g12, if_pos h18, w1, if_neg (by omega), m_X8_isFree, if_neg (by omega), x8, m_X8_beginFirstDeeds, o1, bnd_s, cc8, p2, nx1 (by have := bP.1.1; omega), pt_s, bnd_s, bnd_s, pt_s, bnd_s, bnd_s]
        exact o3
      · rw [tn (by omega), j38 _ (by omega) (by omega), m_X12_turn_J72, rd211, bnd_s, if_neg (by omega), m_X12_turn_J137, rd211, bnd_s, if_pos m, rd_ok (by omega) (by omega), bnd_s, Int.toNat_natCast, x217, o2', bnd_s, rd_ok (by omega) (by omega), bnd_s, Int.toNat_natCast, mm8 212 a (by decide) (by decide) (by decide), p3, nx1 (by omega), wt_ok (by omega) (by omega), bnd_s, Int.toNat_natCast]
        exact o4
    · -- it is on its way
      rcases h with ⟨g10, g11, hK⟩ | ⟨g10, g9, hC⟩
      · have hK' := hK (Nat.le_refl _)
        refine ⟨τ, τm, ?_, Or.inl ⟨hK'.2, rfl⟩, ?_⟩
        · rw [m_X8_turn, if_neg (by omega)]
        · refine Wld_in hW1 ?_ (fun q => by omega)
          exact ⟨s, ⟨q1, q2⟩, ⟨q3, q4⟩, Or.inr ⟨h18, p, l, ⟨p1, p2, p3⟩, ⟨f1, f2, d, f3⟩, Or.inr (Or.inr (Or.inr (Or.inr ⟨m, r, ⟨x6, x8⟩, ⟨g, hgs, g12, g215, hdist⟩, Or.inl ⟨g10, g11, fun q => by omega⟩⟩)))⟩⟩
      · obtain ⟨-, hH'⟩ := hC
        by_cases hz : g = s
        · -- come to its goal
          subst hz
          have hW2 : Wld ρ A N f cx cd t (a + 1) (fun b => b ≠ a) (up τ (39 + 7 * a) 12 (-1)) (up τm 211 a 0) := Wld_loc ha hA hW1 (LocC_up LocC_rf (by omega)) (LocM_up LocM_rf (by omega))
          have hO2 : Own ρ t a (up τ (39 + 7 * a) 12 (-1)) (up τm 211 a 0) g := by
            refine ⟨⟨⟨?_, q2⟩, ?_, ?_⟩, ?_, ⟨?_, ?_⟩, ?_, ?_, ?_, ?_⟩
            · simp (disch := omega) only [up_eq, up_cell, up_slot]; exact q1
            · simp (disch := omega) only [up_eq, up_cell, up_slot]; exact q3
            · simp (disch := omega) only [up_eq, up_cell, up_slot]; exact q4
            · simp (disch := omega) only [up_eq, up_cell, up_slot]; exact r
            · simp (disch := omega) only [up_eq, up_cell, up_slot]; exact x6
            · simp (disch := omega) only [up_eq, up_cell, up_slot]; exact x8
            · simp (disch := omega) only [up_eq, up_cell, up_slot]; exact g9
            · simp (disch := omega) only [up_eq, up_cell, up_slot]; exact g10
            · simp (disch := omega) only [up_eq, up_cell, up_slot]
            · simp (disch := omega) only [up_eq, up_cell, up_slot]; exact hH'
          obtain ⟨τ', τm', o1, o2, hq⟩ := turn_go (l := l) (p := p) (d := d) hB ha hW2 hO2 (by rw [up_slot (by omega)]; exact h18) ⟨p1, by rw [up_slot (by omega)]; exact p2, by rw [up_cell (by decide)]; exact p3⟩ (FrC_cg f1 (up_cell (by omega)) (funext fun i => up_cell (by omega)) (funext fun i => up_cell (by omega))) (FrM_cg2 f2 (up_cell (by omega)) (fun i _ _ => ⟨up_cell (by omega), up_cell (by omega)⟩)) f3
          refine ⟨τ', τm', ?_, Or.inr ⟨by omega, ?_⟩, hq⟩
          · have e : m_X8_turn_J34 τ (39 + 7 * a) (a : Int) = m_X8_turn_J34 (up τ (39 + 7 * a) 12 (-1)) (39 + 7 * a) (a : Int) := by
              rw [m_X8_turn_J34, m_X8_turn_J34, pt_s, bnd_s, pt_s, bnd_s, up_same (up_eq ..)]
            rw [m_X8_turn, if_pos g10, if_neg (by omega), if_pos (by omega), e]; exact o1
          · rw [m_X12_turn, rd211, bnd_s, if_pos m, rd_ok (by omega) (by omega), bnd_s, Int.toNat_natCast, q1, rd_ok (by omega) (by omega), bnd_s, Int.toNat_natCast, g215, if_pos rfl, wt_ok (by omega) (by omega), bnd_s, Int.toNat_natCast, j38 _ (by rw [up_eq]; decide) (by rw [up_eq]; decide), j72 _ (by rw [up_eq]; decide) (by rw [up_eq]; decide)]
            exact o2
        · -- the next way
          obtain ⟨nx, ln, ⟨n1, n2, n3, n4⟩, s1, s2⟩ := walk_2 (t := t) hB w0 w1 w2 w3 ha8 q2 hgs (fun q => hz q.symm) hdist g9 g12 q1 g215
          refine ⟨_, _, ?_, Or.inr ⟨by omega, ?_⟩, Wld_in (Wld_loc ha hA hW1 (LocC_up (LocC_up LocC_rf (i := 10) (x := (nx : Int)) (by omega)) (i := 11) (x := (t : Int) + ln) (by omega)) (LocM_up (LocM_up (LocM_up LocM_rf (c := 214) (x := (t : Int) + ln) (by omega)) (c := 213) (x := (nx : Int)) (by omega)) (c := 211) (x := 5) (by omega))) ?_ (fun q => by rw [up_eq] at q; omega)⟩
          · rw [m_X8_turn, if_pos g10, if_neg (by omega), if_neg (by omega), s1, bnd_s]
          · rw [m_X12_turn, rd211, bnd_s, if_pos m, rd_ok (by omega) (by omega), bnd_s, Int.toNat_natCast, q1, rd_ok (by omega) (by omega), bnd_s, Int.toNat_natCast, g215, if_neg (by omega), s2, bnd_s]
          · exact ag_walk ⟨q3, q4⟩ h18 ⟨p1, p2, p3⟩ f1 f2 f3 r ⟨x6, x8⟩ hgs g12 g215 n1 n2
