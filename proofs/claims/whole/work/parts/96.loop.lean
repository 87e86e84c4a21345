/-! a turn's deeds -/
def vs : St ⊕ St → St
  | .inl s => s
  | .inr s => s
theorem ag_go {ρ : St} {A N : Nat} {f : Nat → Nat} {cx : Nat → List Bool} {cd : Nat → Nat} {t j a s p : Nat} {l : List (Nat × Nat)} {τ τm : St} (hAt : AtS ρ N a A f cx cd τ τm p l) (hO : Own ρ t a τ τm s) : AgB ρ A N f cx cd t j a τ τm := by
  obtain ⟨k1, k5, k6, k7⟩ := hO
  obtain ⟨a1, a2, a3, a4, a5, a6, a7, a8⟩ := hAt
  exact ⟨s, k1.1, k1.2, Or.inr ⟨a6, p, l, ⟨a1, a2, a3⟩, ⟨a4, a5, a8⟩, Or.inl ⟨a7, k5, k6, k7⟩⟩⟩
/-- at the beginning of a turn of the loop, n being left -/
def LpP (ρ : St) (A N : Nat) (f : Nat → Nat) (cx : Nat → List Bool) (cd : Nat → Nat) (t a s : Nat) (n : Nat) (z : Int × St) (τm : St) : Prop :=
  ∃ k : Nat, z.1 = (k : Int) ∧ k + n = 41 ∧ ((k ≤ 40 ∧ τm 170 72 = (k : Int) ∧ RunA ρ A N f cx cd t a s z.2 τm) ∨ (Wld ρ A N f cx cd t (a + 1) (fun _ => True) z.2 τm ∧ τm 211 a = 4 ∧ z.2 (39 + 7 * a) 18 ≠ -1))
theorem loop_sp {ρ : St} {A N : Nat} {f : Nat → Nat} {cx : Nat → List Bool} {cd : Nat → Nat} {t a s : Nat} {τ τm : St} (hB : Base ρ A N f cx cd) (ha : a < A) (hR : RunA ρ A N f cx cd t a s τ τm) (h72 : τm 170 72 = 0) :
    Hp2 (lp (fun z => m_X8_turn_L69 (39 + 7 * a) (a : Int) z.1 z.2) (0, τ)) (lp (fun z => m_X12_turn_L181 (a : Int) z) τm) (fun r rm => Wld ρ A N f cx cd t (a + 1) (fun _ => True) (vs r) (vs rm)) := by
  have hB' := hB
  obtain ⟨-, ⟨-, hA, -⟩, ⟨L, c, hL, b17, b7, b8, bP⟩, -⟩ := hB'
  have ha8 : a < 8 := by omega
  refine Hp2_ch (fun n z τm => LpP ρ A N f cx cd t a s n z τm) 1025 (n := 41) ⟨0, rfl, by omega, Or.inl ⟨by omega, h72, hR⟩⟩ (by omega) ?_
  rintro n ⟨x, τ⟩ τm ⟨k, hx, hkn, h⟩
  simp only at hx h
  subst hx
  have lc : ∀ τ : St, (fun z : Int × St => m_X8_turn_L69 (39 + 7 * a) (a : Int) z.1 z.2) ((k : Int), τ) = m_X8_turn_L69 (39 + 7 * a) (a : Int) (k : Int) τ := fun _ => rfl
  rcases h with ⟨hk40, hk, hW, ⟨p, l, hAt⟩, hO⟩ | ⟨hW, h4, h18⟩
  · obtain ⟨⟨w0, ⟨⟨w1, w2, w3⟩, w4⟩, -⟩, -⟩ := id hW
    obtain ⟨⟨v, τ1⟩, o1, kk, τm1, hkk, hR1, hOC, hOM, hv⟩ := isover_sp bP hL (by rw [fr_c w0 (by omega)]; exact b7) (fr_c w0 (by omega)) (fr_c w0 (by omega)) (fr_m w0 (by omega)) (fr_m w0 (by omega)) ha8 (by omega) hAt
    simp only at hOC hv
    have hW1 := Wld_loc ha hA hW (OvC_loc hOC) (OvM_loc hOM)
    have hL69 : m_X8_turn_L69 (39 + 7 * a) (a : Int) (k : Int) τ = (if v = 0 then (if 40 ≤ (k : Int) then some (.inr (.inl τ1)) else (pt τ1 (39 + 7 * a) 17 (wr ((τ1 (39 + 7 * a) 17) + 1))).bind fun σ26 => (m_X8_takesTime (a : Int) (39 + 7 * a) σ26).bind fun (x27, σ28) => (if x27 = 0 then some (.inl (wr ((k : Int) + 1), σ28)) else some (.inr (.inr σ28)))) else some (.inr (.inl τ1)) : Option ((Int × St) ⊕ (St ⊕ St))) := by
      rw [m_X8_turn_L69, o1, bnd_s]
    rcases hv with ⟨hv, p', l', hpp, hAt1, hSt, h208⟩ | ⟨hv, e18, e211, e208⟩
    · subst hv
      rw [if_pos rfl] at hL69
      obtain ⟨b1, b2, b3, b4, b5, b6, b7', d, b8'⟩ := id hAt1
      have hO1 : Own ρ t a τ1 τm1 s := by
        refine Own_cg hO ?_ ?_ ?_
        · intro i hi
          by_cases h18 : i = 18
          · subst h18
            rw [b6]; exact hAt.2.2.2.2.2.1.symm
          · exact hOC _ _ (by omega) (by omega)
        · intro q hq
          by_cases h8 : q = 208
          · subst h8; exact h208
          · exact hOM _ _ (by omega)
        · exact hOM _ _ (by omega)
      have hk1 : τm1 170 72 = (k : Int) := (hOM 170 72 (by omega)).trans hk
      have w01 := hW1.1.1
      have hps := (pass_m bP hL (fr_m w01 (by omega)) (fr_m w01 (by omega)) ha8 b1 b3 b5 b8').1 hSt
      by_cases hk4 : k = 40
      · subst hk4
        rw [if_pos (by decide)] at hL69
        refine ⟨0, kk, ((40 : Nat), τ), τm1, by omega, by omega, rfl, hR1, Or.inl ⟨.inl τ1, .inr τm1, hL69, turn_full ha8 b7' hps hk1, ?_⟩⟩
        have hfin : Wld ρ A N f cx cd t (a + 1) (fun _ => True) τ1 τm1 := Wld_in hW1 (ag_go hAt1 hO1) (fun q => by omega)
        exact hfin
      · rw [if_neg (by omega), pt_s, bnd_s] at hL69
        have hmt := turn_deed2 ha8 b7' hps hk1 (by omega)
        have hW2 : Wld ρ A N f cx cd t (a + 1) (fun b => b ≠ a) (up τ1 (39 + 7 * a) 17 (wr ((τ1 (39 + 7 * a) 17) + 1))) (up (up τm1 170 72 ((k + 1 : Nat) : Int)) 209 a (wr (τm1 209 a + 1))) := Wld_loc ha hA hW1 (LocC_up LocC_rf (by omega)) (LocM_up (LocM_72 LocM_rf) (by omega))
        have hAt2 : AtS ρ N a A f cx cd (up τ1 (39 + 7 * a) 17 (wr ((τ1 (39 + 7 * a) 17) + 1))) (up (up τm1 170 72 ((k + 1 : Nat) : Int)) 209 a (wr (τm1 209 a + 1))) p' l' := by
          refine AtS_cg hAt1 ?_ ?_ ?_ ?_ ?_ ?_
          · intro i hi; exact up_slot (by omega)
          · exact up_cell (by omega)
          · exact funext fun i => up_cell (by omega)
          · exact funext fun i => up_cell (by omega)
          · intro q hq; rw [up_cell (by omega), up_cell (by omega)]
          · intro i _ _; exact ⟨by rw [up_cell (by omega), up_cell (by omega)], by rw [up_cell (by omega), up_cell (by omega)]⟩
        have hO2 : Own ρ t a (up τ1 (39 + 7 * a) 17 (wr ((τ1 (39 + 7 * a) 17) + 1))) (up (up τm1 170 72 ((k + 1 : Nat) : Int)) 209 a (wr (τm1 209 a + 1))) s := by
          obtain ⟨⟨⟨k1, k2⟩, k3, k4⟩, k5, ⟨k6, k7⟩, k8, k9, k10, k11⟩ := hO1
          refine ⟨⟨⟨?_, k2⟩, ?_, ?_⟩, ?_, ⟨?_, ?_⟩, ?_, ?_, ?_, ?_⟩
          · simp (disch := omega) only [up_eq, up_cell, up_slot]; exact k1
          · simp (disch := omega) only [up_eq, up_cell, up_slot]; exact k3
          · simp (disch := omega) only [up_eq, up_cell, up_slot]; rw [k4]
          all_goals (simp (disch := omega) only [up_eq, up_cell, up_slot]; assumption)
        obtain ⟨⟨y, τ3⟩, τm3, d1, d2, hOut⟩ := deed_sp hB ha hW2 hAt2 hO2 hSt
        have hk3 : τm3 170 72 = ((k + 1 : Nat) : Int) := k_deed (c := ((k + 1 : Nat) : Int)) (by rw [up_cell (by decide), up_eq]) τm3 d2
        rw [d1, bnd_s] at hL69
        rw [d2, bnd_s] at hmt
        have hR3 : Rch (fun z => m_X12_turn_L181 (a : Int) z) (kk + 1) τm τm3 := Rch_snoc hmt kk τm hR1
        rcases hOut with ⟨hy, hRA⟩ | ⟨hy, hWa, h4, h18⟩ | ⟨hy, hWa, h4⟩
        · simp only at hy hRA
          subst hy
          have hc : m_X8_turn_L69 (39 + 7 * a) (a : Int) (k : Int) τ = some (.inl (((k + 1 : Nat) : Int), τ3)) := by
            rw [hL69]
            show (if (0 : Int) = 0 then some (.inl (wr ((k : Int) + 1), τ3)) else some (.inr (.inr τ3)) : Option ((Int × St) ⊕ (St ⊕ St))) = _
            rw [if_pos rfl, nx1 (by omega)]
          exact ⟨1, kk + 1, (((k + 1 : Nat) : Int), τ3), τm3, by omega, by omega, ⟨_, hc, rfl⟩, hR3, Or.inr ⟨n - 1, by omega, k + 1, rfl, by omega, Or.inl ⟨by omega, hk3, hRA⟩⟩⟩
        · simp only at hy hWa h18
          subst hy
          have hc : m_X8_turn_L69 (39 + 7 * a) (a : Int) (k : Int) τ = some (.inl (((k + 1 : Nat) : Int), τ3)) := by
            rw [hL69]
            show (if (0 : Int) = 0 then some (.inl (wr ((k : Int) + 1), τ3)) else some (.inr (.inr τ3)) : Option ((Int × St) ⊕ (St ⊕ St))) = _
            rw [if_pos rfl, nx1 (by omega)]
          exact ⟨1, kk + 1, (((k + 1 : Nat) : Int), τ3), τm3, by omega, by omega, ⟨_, hc, rfl⟩, hR3, Or.inr ⟨n - 1, by omega, k + 1, rfl, by omega, Or.inr ⟨hWa, h4, h18⟩⟩⟩
        · simp only at hy hWa
          subst hy
          have hc : m_X8_turn_L69 (39 + 7 * a) (a : Int) (k : Int) τ = some (.inr (.inr τ3)) := by
            rw [hL69]
            show (if (1 : Int) = 0 then some (.inl (wr ((k : Int) + 1), τ3)) else some (.inr (.inr τ3)) : Option ((Int × St) ⊕ (St ⊕ St))) = _
            rw [if_neg (by decide)]
          exact ⟨0, kk + 1, ((k : Int), τ), τm3, by omega, by omega, rfl, hR3, Or.inl ⟨.inr τ3, .inl τm3, hc, turn_out ha8 h4, hWa⟩⟩
    · subst hv
      rw [if_neg (by decide)] at hL69
      have hO1 : Own ρ t a τ1 τm1 s := by
        obtain ⟨⟨⟨k1, k2⟩, k3, k4⟩, k5, ⟨k6, k7⟩, k8, k9, k10, k11⟩ := hO
        refine ⟨⟨⟨?_, k2⟩, ?_, ?_⟩, ?_, ⟨?_, ?_⟩, ?_, ?_, ?_, ?_⟩
        · rw [hOM _ _ (by omega)]; exact k1
        · rw [e208, e18, w1, w2]
        · rw [hOM _ _ (by omega), hOC _ _ (by omega) (by omega)]; exact k4
        · rw [hOC _ _ (by omega) (by omega)]; exact k5
        · rw [hOC _ _ (by omega) (by omega)]; exact k6
        · rw [hOC _ _ (by omega) (by omega)]; exact k7
        · rw [hOC _ _ (by omega) (by omega)]; exact k8
        · rw [hOC _ _ (by omega) (by omega)]; exact k9
        · rw [hOC _ _ (by omega) (by omega)]; exact k10
        · rw [hOM _ _ (by omega)]; exact k11
      refine ⟨0, kk, ((k : Int), τ), τm1, by omega, by omega, rfl, hR1, Or.inl ⟨.inl τ1, .inl τm1, hL69, turn_out ha8 (by omega), ?_⟩⟩
      have hfin : Wld ρ A N f cx cd t (a + 1) (fun _ => True) τ1 τm1 := Wld_in hW1 (ag_end hO1 e211 (by omega)) (fun q => by omega)
      exact hfin
  · have ho : m_X8_isOver (39 + 7 * a) τ = some (1, τ) := by
      have : Hp (m_X8_isOver (39 + 7 * a) τ) (fun q => q = (1, τ)) := by
        rw [m_X8_isOver, Hp_bind]
        refine Hp_lp (fun _ z => z = ((0 : Int), τ)) (n := 0) rfl (by omega) ?_
        rintro m z rfl
        simp only [m_X8_isOver_L2]
        rw [if_neg (by decide), if_neg h18, Hp_some, Lq_inr]
        simp only [Hp_some]
      obtain ⟨q, q1, q2⟩ := this
      rw [q1, q2]
    have hL69 : m_X8_turn_L69 (39 + 7 * a) (a : Int) (k : Int) τ = some (.inr (.inl τ)) := by
      rw [m_X8_turn_L69, ho, bnd_s]
      show (if (1 : Int) = 0 then _ else some (.inr (.inl τ)) : Option ((Int × St) ⊕ (St ⊕ St))) = _
      rw [if_neg (by decide)]
    exact ⟨0, 0, ((k : Int), τ), τm, by omega, by omega, rfl, rfl, Or.inl ⟨.inl τ, .inl τm, hL69, turn_out ha8 (by omega), hW⟩⟩
