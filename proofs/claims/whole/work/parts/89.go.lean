/-! going -/
theorem walk_2 {ρ : St} {A N : Nat} {f : Nat → Nat} {cx : Nat → List Bool} {cd : Nat → Nat} {t a s g : Nat} {τ τm : St} (hB : Base ρ A N f cx cd) (hW : FrW ρ τ τm) (h12 : τ 129 12 = (t : Int)) (h71 : τm 170 71 = (t : Int)) (ht : t < 96) (ha : a < 8) (hs : (s : Int) < ρ 1 4) (hg : (g : Int) < ρ 1 4) (hne : s ≠ g) (hlt : nM ρ s g < 1000)
    (c9 : τ (39 + 7 * a) 9 = (s : Int)) (c12 : τ (39 + 7 * a) 12 = (g : Int)) (m213 : τm 213 a = (s : Int)) (m215 : τm 215 a = (g : Int)) :
    ∃ (nx : Nat) (l : Int), ((nx : Int) < ρ 1 4 ∧ nM ρ nx g < 1000 ∧ 1 ≤ l ∧ l ≤ 9) ∧ m_X8_setOut (39 + 7 * a) τ = some (up (up τ (39 + 7 * a) 10 (nx : Int)) (39 + 7 * a) 11 ((t : Int) + l)) ∧ m_X12_walks (a : Int) τm = some (up (up (up τm 214 a ((t : Int) + l)) 213 a (nx : Int)) 211 a 5) := by
  obtain ⟨⟨bT, bN, bA⟩, ⟨b6, hA, -⟩, -, -, bD, bM⟩ := hB
  have t14 := bT.1
  have t15 := bT.2.1
  have hE := town_isE bT (Int.le_refl (ρ 1 5))
  obtain ⟨nx, n1, n2, n3⟩ := nextSpot_sp (τ := τ) bT bN hs hg hne hlt (fun k j hk => congrFun (fr_c hW (by omega)) j)
  have e193 : τm 193 = ρ 193 := fr_m hW (by omega)
  have e194 : τm 194 = ρ 194 := fr_m hW (by omega)
  have e30 : τm 170 30 = ρ 1 4 := (fr_s hW (by omega)).trans t14.1
  obtain ⟨nx', m1, m2, m3, m4⟩ := onward_sp (τ := τm) bT bN.1 hs hg hne hlt e30 (by rw [e193]; exact bD) (fun x y hx hy => by rw [e194]; exact bM x y hx hy)
  have hnn : nx' = nx := by
    have i1 := n3 nx' m2
    have i2 := m3 nx n2
    omega
  subst hnn
  obtain ⟨hx10, l, he, hl⟩ := n2
  have hlen := nxt_len hE bN.1 (by omega) (by omega) he hl
  obtain ⟨-, -, hl1, hl9, -⟩ := hE _ _ _ he
  have hge := bN.1.1 nx' g hx10 (by omega)
  have hnsp : (nx' : Int) < ρ 1 4 := by
    obtain ⟨w, w1, w2, w3⟩ := he
    obtain ⟨A', B', L', q1, q2, q3, q4, q5, q6, q7, q8, q9, q10, q11, q12, q13⟩ := town_way bT w1
    omega
  have hnm : ρ (6 + s) nx' = l := by
    unfold nM at hlen
    by_cases hz : ρ (6 + s) nx' = -1
    · rw [if_pos hz] at hlen; omega
    · rw [if_neg hz] at hlen; exact hlen
  refine ⟨nx', l, ⟨hnsp, by omega, hl1, hl9⟩, ?_, ?_⟩
  · have e1 : (up τ (39 + 7 * a) 10 (nx' : Int)) 1 4 = ρ 1 4 := by rw [up_cell (by omega)]; exact congrFun (fr_c hW (by omega)) 4
    have e2 : (up τ (39 + 7 * a) 10 (nx' : Int)) (6 + s) nx' = l := by rw [up_cell (by omega), fr_c hW (by omega)]; exact hnm
    rw [m_X8_setOut, c9, c12, n1, bnd_s, if_neg (by omega), pt_s, bnd_s, up_slot (by omega), c9, lenB_eq (by omega), bnd_s, e1, if_pos (by omega), Int.toNat_natCast, Int.toNat_natCast, e2, pt_s, bnd_s, up_cell (by omega), h12, wr_id' (by omega) (by omega)]
  · rw [m_X12_walks, rd_ok (by omega) (by omega), bnd_s, Int.toNat_natCast, m213, rd_ok (by omega) (by omega), bnd_s, Int.toNat_natCast, m215, m1, bnd_s, bnd_s, ix10 (by omega) (by omega), rd_ok (by omega) (by omega), bnd_s, Int.toNat_natCast, m4, hlen, h71, wr_id' (by omega) (by omega), wt_ok (by omega) (by omega), bnd_s, Int.toNat_natCast, wt_ok (by omega) (by omega), bnd_s, Int.toNat_natCast, wt_ok (by omega) (by omega), bnd_s, Int.toNat_natCast]
/-- an agent that has set out -/
theorem ag_walk {ρ : St} {A N : Nat} {f : Nat → Nat} {cx : Nat → List Bool} {cd : Nat → Nat} {t a g nx p d : Nat} {l : List (Nat × Nat)} {z : Int} {τ τm : St} (h8 : τm 208 a = τ (39 + 7 * a) 18 ∧ τm 209 a = τ (39 + 7 * a) 17) (h18 : τ (39 + 7 * a) 18 = -1) (h4 : p < N ∧ τ (39 + 7 * a) 4 = (p : Int) ∧ τm 212 a = (f p : Int)) (hC : FrC τ a l) (hM : FrM f τm a l) (hS : Stk A N cx cd (d + 1) p l) (h5 : τ (39 + 7 * a) 5 ≤ (t : Int)) (h6 : τ (39 + 7 * a) 6 = -1 ∧ τ (39 + 7 * a) 8 = -1) (hg : (g : Int) < ρ 1 4) (h12 : τ (39 + 7 * a) 12 = (g : Int)) (h215 : τm 215 a = (g : Int)) (hn : (nx : Int) < ρ 1 4) (hl : nM ρ nx g < 1000) :
    AgB ρ A N f cx cd t (a + 1) a (up (up τ (39 + 7 * a) 10 (nx : Int)) (39 + 7 * a) 11 z) (up (up (up τm 214 a z) 213 a (nx : Int)) 211 a 5) := by
  refine ⟨nx, ⟨?_, hn⟩, ⟨?_, ?_⟩, Or.inr ⟨?_, p, l, ⟨h4.1, ?_, ?_⟩, ⟨?_, ?_, d, hS⟩, Or.inr (Or.inr (Or.inr (Or.inr ⟨up_eq .., ?_, ⟨?_, ?_⟩, ⟨g, hg, ?_, ?_, hl⟩, Or.inl ⟨?_, ?_, ?_⟩⟩)))⟩⟩
  · simp (disch := omega) only [up_eq, up_cell, up_slot]
  · simp (disch := omega) only [up_eq, up_cell, up_slot]; exact h8.1
  · simp (disch := omega) only [up_eq, up_cell, up_slot]; exact h8.2
  · simp (disch := omega) only [up_eq, up_cell, up_slot]; exact h18
  · simp (disch := omega) only [up_eq, up_cell, up_slot]; exact h4.2.1
  · simp (disch := omega) only [up_eq, up_cell, up_slot]; exact h4.2.2
  · exact FrC_cg hC (by rw [up_cell (by omega), up_cell (by omega)]) (funext fun i => by rw [up_cell (by omega), up_cell (by omega)]) (funext fun i => by rw [up_cell (by omega), up_cell (by omega)])
  · exact FrM_cg2 hM (by rw [up_cell (by omega), up_cell (by omega), up_cell (by omega)]) (fun i _ _ => ⟨by rw [up_cell (by omega), up_cell (by omega), up_cell (by omega)], by rw [up_cell (by omega), up_cell (by omega), up_cell (by omega)]⟩)
  · simp (disch := omega) only [up_eq, up_cell, up_slot]; exact h5
  · simp (disch := omega) only [up_eq, up_cell, up_slot]; exact h6.1
  · simp (disch := omega) only [up_eq, up_cell, up_slot]; exact h6.2
  · simp (disch := omega) only [up_eq, up_cell, up_slot]; exact h12
  · simp (disch := omega) only [up_eq, up_cell, up_slot]; exact h215
  · simp (disch := omega) only [up_eq, up_cell, up_slot]
  · simp (disch := omega) only [up_eq, up_cell, up_slot]
  · intro q; omega
/-- GO, the step gone on already -/
theorem dl_7 {ρ : St} {A N : Nat} {f : Nat → Nat} {cx : Nat → List Bool} {cd : Nat → Nat} {t a s p x : Nat} {l : List (Nat × Nat)} {τ τm : St} (hB : Base ρ A N f cx cd) (ha : a < A) (hA : A ≤ 8) (hW : Wld ρ A N f cx cd t (a + 1) (fun b => b ≠ a) τ τm) (hAt : AtS ρ N a A f cx cd τ τm p l) (hO : Own ρ t a τ τm s) (hx : x ≤ 9) :
    Hp2 ((m_X8_goTo (39 + 7 * a) (x : Int) τ).bind fun (x18, σ19) => some (x18, σ19)) (if τm 170 30 ≤ (x : Int) then some τm else (if (x : Int) = (s : Int) then some τm else (rd τm 194 100 (wr (wr (10 * (s : Int)) + (x : Int)))).bind fun x11 => (if x11 < 1000 then (wt τm 215 8 (a : Int) (x : Int)).bind fun σ13 => (m_X12_walks (a : Int) σ13).bind fun σ14 => some σ14 else some τm))) (Out ρ A N f cx cd t a s) := by
  have hB' := hB
  obtain ⟨⟨bT, bN, bA⟩, ⟨b6, -⟩, -, -, bD, bM⟩ := hB'
  obtain ⟨⟨w0, ⟨⟨w1, w2, w3⟩, w4⟩, -⟩, -⟩ := id hW
  have hO' := hO
  obtain ⟨⟨⟨k1, k2⟩, k3, k4⟩, k5, ⟨k6, k7⟩, k8, k9, k10, k11⟩ := hO'
  have hAt' := hAt
  obtain ⟨a1, a2, a3, a4, a5, a6, a7, d, a8⟩ := hAt'
  have t14 := bT.1
  have e14 : τ 1 4 = ρ 1 4 := congrFun (fr_c w0 (by omega)) 4
  have e30 : τm 170 30 = ρ 1 4 := (fr_s w0 (by omega)).trans t14.1
  have stay : Out ρ A N f cx cd t a s (0, τ) τm := out_run ⟨hW, ⟨p, l, hAt⟩, hO⟩
  rw [m_X8_goTo, k8, e30]
  by_cases h1 : (x : Int) = (s : Int)
  · rw [if_pos h1, if_neg (by omega), if_pos h1, bnd_s, Hp2_some]; exact stay
  · rw [if_neg h1, lenB_eq (by omega), bnd_s, e14]
    by_cases h2 : ρ 1 4 ≤ (x : Int)
    · rw [if_pos h2, if_neg (show ¬ ((0 ≤ (s : Int) ∧ (s : Int) < ρ 1 4) ∧ (0 ≤ (x : Int) ∧ (x : Int) < ρ 1 4)) by omega), if_pos (show (-1 : Int) = -1 from rfl), bnd_s, Hp2_some]; exact stay
    · have e194 : τm 194 (10 * s + x) = nM ρ s x := by rw [fr_m w0 (by omega)]; exact bM s x (by omega) (by omega)
      rw [if_neg h2, if_neg h1, if_pos (show (0 ≤ (s : Int) ∧ (s : Int) < ρ 1 4) ∧ (0 ≤ (x : Int) ∧ (x : Int) < ρ 1 4) by omega), Int.toNat_natCast, Int.toNat_natCast, fr_c w0 (show 6 + s < 39 by omega), ix10 (by omega) (by omega), rd_ok (by omega) (by omega), bnd_s, Int.toNat_natCast, e194]
      have hb := bN.2 s x (by omega) (by omega)
      by_cases h3 : ρ (6 + s) x = -1
      · have : nM ρ s x = 1000 := by unfold nM; rw [if_pos h3]
        rw [if_pos h3, if_neg (by omega), bnd_s, Hp2_some]; exact stay
      · have hlt : nM ρ s x < 1000 := by unfold nM; rw [if_neg h3]; omega
        have w0' : FrW ρ (up τ (39 + 7 * a) 12 (x : Int)) (up τm 215 a (x : Int)) := (Wld_loc ha hA hW (LocC_up LocC_rf (by omega)) (LocM_up LocM_rf (by omega))).1.1
        obtain ⟨nx, ln, ⟨n1, n2, n3, n4⟩, s1, s2⟩ := walk_2 (t := t) hB w0' (by rw [up_cell (by omega)]; exact w1) (by rw [up_cell (by omega)]; exact w2) w3 (by omega) k2 (by omega) (by omega) hlt (by rw [up_slot (by omega)]; exact k8) (up_eq ..) (by rw [up_cell (by omega)]; exact k1) (up_eq ..)
        rw [if_neg h3, if_pos hlt, pt_s, bnd_s, s1, bnd_s, wt_ok (by omega) (by omega), bnd_s, Int.toNat_natCast, s2, bnd_s]
        rw [if_neg (by rw [up_slot (by omega), up_eq]; omega), bnd_s, Hp2_some]
        refine out_time (Wld_in (Wld_loc ha hA hW (LocC_up (LocC_up (LocC_up LocC_rf (by omega)) (by omega)) (by omega)) (LocM_up (LocM_up (LocM_up (LocM_up LocM_rf (by omega)) (by omega)) (by omega)) (by omega))) ?_ (fun q => by rw [up_eq] at q; omega)) (by rw [up_eq]; decide)
        refine ag_walk (d := d) ⟨?_, ?_⟩ ?_ ⟨a1, ?_, ?_⟩ ?_ ?_ a8 ?_ ⟨?_, ?_⟩ (show (x : Int) < ρ 1 4 by omega) ?_ ?_ n1 n2
        · simp (disch := omega) only [up_eq, up_cell, up_slot]; exact k3
        · simp (disch := omega) only [up_eq, up_cell, up_slot]; exact k4
        · simp (disch := omega) only [up_eq, up_cell, up_slot]; exact a6
        · simp (disch := omega) only [up_eq, up_cell, up_slot]; exact a2
        · simp (disch := omega) only [up_eq, up_cell, up_slot]; exact a3
        · exact FrC_cg a4 (up_cell (by omega)) (funext fun i => up_cell (by omega)) (funext fun i => up_cell (by omega))
        · exact FrM_cg2 a5 (up_cell (by omega)) (fun i _ _ => ⟨up_cell (by omega), up_cell (by omega)⟩)
        · simp (disch := omega) only [up_eq, up_cell, up_slot]; exact k5
        · simp (disch := omega) only [up_eq, up_cell, up_slot]; exact k6
        · simp (disch := omega) only [up_eq, up_cell, up_slot]; exact k7
        · exact up_eq ..
        · exact up_eq ..
