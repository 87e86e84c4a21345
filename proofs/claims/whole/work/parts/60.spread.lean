/-! how a word goes round: the class's way -/
/-- state, facts known, agents, who has it first, whether it is dropped, from which tick -/
abbrev Ky : Type := St × Int × Nat × (Nat → Prop) × Prop × Nat
def cCan (c : Ky) (a d s : Nat) : Prop := Can c.1 c.2.1 a d s
def cUn (c : Ky) (a d l : Nat) : Prop := Unsn c.1 c.2.1 a d l
/-- in tick t0 + u the word is heard at s -/
def Hd (c : Ky) : Nat → Nat → Prop
  | 0, s => ∃ a, a < c.2.2.1 ∧ cCan c a c.2.2.2.2.2 s ∧ c.2.2.2.1 a
  | u + 1, s => (c.2.2.2.2.1 ∧ Hd c u s) ∨ ∃ a, a < c.2.2.1 ∧ cCan c a (c.2.2.2.2.2 + (u + 1)) s ∧ (c.2.2.2.1 a ∨ (cCan c a (c.2.2.2.2.2 + u) s ∧ Hd c u s) ∨ ∃ o l, ∃ _ : 1 ≤ l ∧ l ≤ u + 1, Way c.1 s o l ∧ cUn c a (c.2.2.2.2.2 + (u + 1 - l)) l ∧ cCan c a (c.2.2.2.2.2 + (u + 1 - l)) o ∧ Hd c (u + 1 - l) o)
termination_by u => u
def Hh (c : Ky) (u a s : Nat) : Prop := cCan c a (c.2.2.2.2.2 + u) s ∧ Hd c u s
/-- what agent a has in tick t0 + u of its own, by what it had in the first v ticks -/
def Pg (c : Ky) (v u a s : Nat) : Prop := cCan c a (c.2.2.2.2.2 + u) s ∧ (c.2.2.2.1 a ∨ (1 ≤ u ∧ u ≤ v ∧ Hh c (u - 1) a s) ∨ ∃ o l, (1 ≤ l ∧ l ≤ u ∧ u - l < v) ∧ Way c.1 s o l ∧ cUn c a (c.2.2.2.2.2 + (u - l)) l ∧ Hh c (u - l) a o)
theorem Hd_iff (c : Ky) (u s : Nat) : Hd c u s ↔ (c.2.2.2.2.1 ∧ 1 ≤ u ∧ Hd c (u - 1) s) ∨ ∃ a, a < c.2.2.1 ∧ Pg c u u a s := by
  cases u with
  | zero =>
    rw [Hd]
    constructor
    · rintro ⟨a, h1, h2, h3⟩
      exact Or.inr ⟨a, h1, h2, Or.inl h3⟩
    · rintro (⟨-, h, -⟩ | ⟨a, h1, h2, (h3 | ⟨h3, -⟩ | ⟨o, l, ⟨h3, h4, -⟩, -⟩)⟩)
      · omega
      · exact ⟨a, h1, h2, h3⟩
      · omega
      · omega
  | succ u =>
    rw [Hd]
    constructor
    · rintro (⟨h1, h2⟩ | ⟨a, h1, h2, (h3 | ⟨h3, h4⟩ | ⟨o, l, h3, h4, h5, h6, h7⟩)⟩)
      · exact Or.inl ⟨h1, by omega, h2⟩
      · exact Or.inr ⟨a, h1, h2, Or.inl h3⟩
      · exact Or.inr ⟨a, h1, h2, Or.inr (Or.inl ⟨by omega, Nat.le_refl _, h3, h4⟩)⟩
      · exact Or.inr ⟨a, h1, h2, Or.inr (Or.inr ⟨o, l, ⟨h3.1, h3.2, by omega⟩, h4, h5, h6, h7⟩)⟩
    · rintro (⟨h1, -, h2⟩ | ⟨a, h1, h2, (h3 | ⟨-, -, h3, h4⟩ | ⟨o, l, ⟨h3, h4, -⟩, h5, h6, h7, h8⟩)⟩)
      · exact Or.inl ⟨h1, h2⟩
      · exact Or.inr ⟨a, h1, h2, Or.inl h3⟩
      · exact Or.inr ⟨a, h1, h2, Or.inr (Or.inl ⟨h3, h4⟩)⟩
      · exact Or.inr ⟨a, h1, h2, Or.inr (Or.inr ⟨o, l, ⟨h3, h4⟩, h5, h6, h7, h8⟩)⟩
/-- the class's row of agent i -/
def cw2 (c : Ky) (v m j u i s : Nat) : Prop := Pg c v u i s ∨ (cCan c i (c.2.2.2.2.2 + u) s ∧ ((m = 1 ∧ u = v + 1 ∧ Hh c v i s) ∨ ∃ w : Nat, w < j ∧ ∃ o, WAt c.1 w s o ∧ u = v + (c.1 4 w).toNat ∧ cUn c i (c.2.2.2.2.2 + v) (c.1 4 w).toNat ∧ Hh c v i o))
theorem cw2_end {c : Ky} (hT : iTown c.1) {v j : Nat} (hj : (j : Int) = c.1 1 5) (u i s : Nat) : cw2 c v 1 j u i s ↔ Pg c (v + 1) u i s := by
  constructor
  · rintro (⟨q1, (q2 | ⟨q2, q3, q4⟩ | ⟨o, l, ⟨q2, q3, q4⟩, q5, q6, q7⟩)⟩ | ⟨q1, (⟨-, q2, q3⟩ | ⟨w, q2, o, q3, q4, q5, q6⟩)⟩)
    · exact ⟨q1, Or.inl q2⟩
    · exact ⟨q1, Or.inr (Or.inl ⟨q2, by omega, q4⟩)⟩
    · exact ⟨q1, Or.inr (Or.inr ⟨o, l, ⟨q2, q3, by omega⟩, q5, q6, q7⟩)⟩
    · exact ⟨q1, Or.inr (Or.inl ⟨by omega, by omega, by rw [show u - 1 = v by omega]; exact q3⟩)⟩
    · obtain ⟨A, B, L, -, -, e4, -, -, -, -, -, -, l1, l2, -⟩ := town_way hT (w := w) (by omega)
      refine ⟨q1, Or.inr (Or.inr ⟨o, (c.1 4 w).toNat, ⟨by omega, by omega, by omega⟩, ?_, ?_, ?_⟩)⟩
      · rw [way_iff hT]; exact ⟨w, by omega, q3, by omega⟩
      · rw [show u - (c.1 4 w).toNat = v by omega]; exact q5
      · rw [show u - (c.1 4 w).toNat = v by omega]; exact q6
  · rintro ⟨q1, (q2 | ⟨q2, q3, q4⟩ | ⟨o, l, ⟨q2, q3, q4⟩, q5, q6, q7⟩)⟩
    · exact Or.inl ⟨q1, Or.inl q2⟩
    · by_cases hd : u ≤ v
      · exact Or.inl ⟨q1, Or.inr (Or.inl ⟨q2, hd, q4⟩)⟩
      · exact Or.inr ⟨q1, Or.inl ⟨rfl, by omega, by rw [show v = u - 1 by omega]; exact q4⟩⟩
    · by_cases hd : u - l < v
      · exact Or.inl ⟨q1, Or.inr (Or.inr ⟨o, l, ⟨q2, q3, hd⟩, q5, q6, q7⟩)⟩
      · rw [way_iff hT] at q5
        obtain ⟨w, w1, w2, w3⟩ := q5
        have e : u - l = v := by omega
        rw [e] at q6 q7
        refine Or.inr ⟨q1, Or.inr ⟨w, by omega, o, w2, by omega, ?_, q7⟩⟩
        rw [show (c.1 4 w).toNat = l by omega]; exact q6
theorem inRow {i : Nat} (j : Nat) : inR ([(156 + i, 156 + i)], []) (156 + i) j = true := by simp [inR, inC]
theorem outRow {i k : Nat} (h : k ≠ 156 + i) (j : Nat) : inR ([(156 + i, 156 + i)], []) k j = false := by
  simp only [inR, inC, inS, List.any_cons, List.any_nil, Bool.or_false, Bool.and_eq_false_iff]
  simp only [Bool.eq_false_iff, ne_eq, Nat.ble_eq]
  omega
theorem Wr_row {i : Nat} {τ τ' : St} (hi : i < 8) (h : Wr ([(156 + i, 156 + i)], []) τ τ') : Wr ([(97, 104), (106, 117), (154, 154), (156, 163)], []) τ τ' := by
  intro k j hk
  apply h
  apply outRow
  rintro rfl
  have : ∀ i : Fin 8, inC [(97, 104), (106, 117), (154, 154), (156, 163)] (156 + i.val) = true := by decide
  unfold inR at hk
  rw [this ⟨i, hi⟩] at hk
  exact absurd hk (by simp)
/-- what agent i has in tick t0 + v, carried on by the ways -/
theorem carry_w {c : Ky} {τ0 : St} {i v : Nat} {here : Int} (hT : iTown c.1) (hi : i < 8) (hv : c.2.2.2.2.2 + v < 96) (hK : KN c.1 τ0 c.2.1) (hR : RowC c.1 c.2.1 i τ0) (hh : Bs here (Hh c v i)) (h0 : ∀ u : Nat, v < u → c.2.2.2.2.2 + u < 96 → Bs (τ0 (156 + i) (c.2.2.2.2.2 + u)) (cw2 c v 1 0 u i)) :
    Hp (lp (fun z => m_X7_carryOn_L70 i ((c.2.2.2.2.2 + v : Nat) : Int) here z.1 z.2) (0, τ0)) (fun τ => Wr ([(156 + i, 156 + i)], []) τ0 τ ∧ (∀ d, d ≤ c.2.2.2.2.2 + v → τ (156 + i) d = τ0 (156 + i) d) ∧ ∀ u : Nat, v < u → c.2.2.2.2.2 + u < 96 → Bs (τ (156 + i) (c.2.2.2.2.2 + u)) (Pg c (v + 1) u i)) := by
  obtain ⟨σ, n, A, S, dr, t0⟩ := c
  simp only at hT hv hK hR h0 ⊢
  have t2 := hT.2.1
  refine Hp_up (fun j (z : Int × St) => z.1 = (j : Int) ∧ Wr ([(156 + i, 156 + i)], []) τ0 z.2 ∧ (∀ d, d ≤ t0 + v → z.2 (156 + i) d = τ0 (156 + i) d) ∧ ∀ u : Nat, v < u → t0 + u < 96 → Bs (z.2 (156 + i) (t0 + u)) (cw2 (σ, n, A, S, dr, t0) v 1 j u i)) 0 (σ 1 5).toNat (by omega) (by omega) ⟨rfl, Wr_rf, fun _ _ => rfl, h0⟩ ?_ ?_
  · rintro j ⟨x, τ⟩ - hj ⟨e1, e2, e3, e5⟩
    simp only at e1 e2 e3 e5
    subst e1
    have hK' := KN_step hK (Wr_row hi e2)
    have f2 : τ 2 = σ 2 := funext fun q => hK'.1 2 q rfl
    have f3 : τ 3 = σ 3 := funext fun q => hK'.1 3 q rfl
    have f4 : τ 4 = σ 4 := funext fun q => hK'.1 4 q rfl
    have f5 : τ 1 5 = σ 1 5 := hK'.1 1 5 rfl
    have f106 : ∀ q, τ (106 + i) q = τ0 (106 + i) q := fun q => e2 _ q (outRow (by omega) q)
    have f97 : ∀ q, τ (97 + i) q = τ0 (97 + i) q := fun q => e2 _ q (outRow (by omega) q)
    obtain ⟨AA, BB, L, -, -, e4, -, -, -, -, -, -, l1, l2, -⟩ := town_way hT (w := j) (by omega)
    obtain ⟨e, g1, g2⟩ := arrival_sp (σ := σ) (τ := τ) (n := n) (t := t0 + v) (l := σ 4 j) hi hv hT (by omega) f4 rfl (by rw [f106]; exact (hR (t0 + v) hv).1)
    simp only [m_X7_carryOn_L70]
    rw [if_neg (by omega), g1, bnd_s]
    have hsame : (∀ u s, t0 + u < 96 → ¬ (∃ o, WAt σ j s o ∧ u = v + (σ 4 j).toNat ∧ Unsn σ n i (t0 + v) (σ 4 j).toNat ∧ Hh (σ, n, A, S, dr, t0) v i o)) → Lq (fun τ => Wr ([(156 + i, 156 + i)], []) τ0 τ ∧ (∀ d, d ≤ t0 + v → τ (156 + i) d = τ0 (156 + i) d) ∧ ∀ u : Nat, v < u → t0 + u < 96 → Bs (τ (156 + i) (t0 + u)) (Pg (σ, n, A, S, dr, t0) (v + 1) u i)) (fun (z : Int × St) => z.1 = ((j + 1 : Nat) : Int) ∧ Wr ([(156 + i, 156 + i)], []) τ0 z.2 ∧ (∀ d, d ≤ t0 + v → z.2 (156 + i) d = τ0 (156 + i) d) ∧ ∀ u : Nat, v < u → t0 + u < 96 → Bs (z.2 (156 + i) (t0 + u)) (cw2 (σ, n, A, S, dr, t0) v 1 (j + 1) u i)) (Sum.inl (wr ((j : Int) + 1), τ)) := by
      intro hno
      rw [Lq_inl, nx1 (by omega)]
      refine ⟨rfl, e2, e3, ?_⟩
      intro u hu hu2
      refine Bs_cg (e5 u hu hu2) ?_
      intro s
      unfold cw2
      constructor
      · rintro (q | ⟨q1, (q2 | ⟨w, q3, q4⟩)⟩)
        · exact Or.inl q
        · exact Or.inr ⟨q1, Or.inl q2⟩
        · exact Or.inr ⟨q1, Or.inr ⟨w, by omega, q4⟩⟩
      · rintro (q | ⟨q1, (q2 | ⟨w, q3, o, q4, q5, q6, q7⟩)⟩)
        · exact Or.inl q
        · exact Or.inr ⟨q1, Or.inl q2⟩
        · by_cases hwj : w = j
          · subst hwj
            exact absurd ⟨o, q4, q5, q6, q7⟩ (hno u s hu2)
          · exact Or.inr ⟨q1, Or.inr ⟨w, by omega, o, q4, q5, q6, q7⟩⟩
    rcases g2 with ⟨g3, g4⟩ | ⟨g3, g4⟩
    · by_cases hc : 96 ≤ e
      · rw [if_pos hc, Hp_some]
        refine hsame ?_
        rintro u s hu ⟨o, -, q, -⟩
        omega
      · rw [if_neg hc]
        obtain ⟨E, hE⟩ := Int.eq_ofNat_of_zero_le (show 0 ≤ e by omega)
        have hEt : E = t0 + (v + (σ 4 j).toNat) := by omega
        obtain ⟨y, v1, v2⟩ := across_sp hT f2 f3 (w := j) (by omega) hh
        rw [hE, rr_ok (by omega) (by omega), bnd_s, rd_ok (by omega) (by omega), bnd_s, v1, bnd_s, rr_ok (by omega) (by omega), bnd_s, rd_ok (by omega) (by omega), bnd_s, Hp_bind, Hp_wt]
        refine ⟨by omega, ?_⟩
        simp only [Int.toNat_natCast, rf_has hi, rf_can hi]
        rw [Hp_some, Lq_inl, nx1 (by omega)]
        refine ⟨rfl, Wr_up e2 (inRow _), ?_, ?_⟩
        · intro d hd
          simp only
          rw [up_slot (by omega)]
          exact e3 d hd
        · intro u hu hu2
          simp only
          by_cases huE : t0 + u = E
          · rw [huE, up_eq, f97]
            have hcan := (hR E (by omega)).2
            have hold := e5 u hu hu2
            rw [huE] at hold
            refine Bs_cg (Bs_or hold (Bs_and v2 hcan)) ?_
            intro s
            unfold cw2
            have hcc : cCan (σ, n, A, S, dr, t0) i (t0 + u) s ↔ Can σ n i E s := by unfold cCan; rw [huE]
            constructor
            · rintro ((q | ⟨q1, (q2 | ⟨w, q3, q4⟩)⟩) | ⟨⟨o, q2, q3⟩, q1⟩)
              · exact Or.inl q
              · exact Or.inr ⟨q1, Or.inl q2⟩
              · exact Or.inr ⟨q1, Or.inr ⟨w, by omega, q4⟩⟩
              · exact Or.inr ⟨hcc.mpr q1, Or.inr ⟨j, by omega, o, q2, by simp only; omega, g3, q3⟩⟩
            · rintro (q | ⟨q1, (q2 | ⟨w, q3, o, q4, q5, q6, q7⟩)⟩)
              · exact Or.inl (Or.inl q)
              · exact Or.inl (Or.inr ⟨q1, Or.inl q2⟩)
              · by_cases hwj : w = j
                · subst hwj
                  exact Or.inr ⟨⟨o, q4, q7⟩, hcc.mp q1⟩
                · exact Or.inl (Or.inr ⟨q1, Or.inr ⟨w, by omega, o, q4, q5, q6, q7⟩⟩)
          · rw [up_slot huE]
            refine Bs_cg (e5 u hu hu2) ?_
            intro s
            unfold cw2
            constructor
            · rintro (q | ⟨q1, (q2 | ⟨w, q3, q4⟩)⟩)
              · exact Or.inl q
              · exact Or.inr ⟨q1, Or.inl q2⟩
              · exact Or.inr ⟨q1, Or.inr ⟨w, by omega, q4⟩⟩
            · rintro (q | ⟨q1, (q2 | ⟨w, q3, o, q4, q5, q6, q7⟩)⟩)
              · exact Or.inl q
              · exact Or.inr ⟨q1, Or.inl q2⟩
              · by_cases hwj : w = j
                · subst hwj
                  simp only at q5
                  omega
                · exact Or.inr ⟨q1, Or.inr ⟨w, by omega, o, q4, q5, q6, q7⟩⟩
    · rw [g4, if_pos (by decide), Hp_some]
      refine hsame ?_
      rintro u s hu ⟨o, -, -, q, -⟩
      exact g3 q
  · rintro ⟨x, τ⟩ ⟨e1, e2, e3, e5⟩
    simp only at e1 e2 e3 e5
    subst e1
    have hK' := KN_step hK (Wr_row hi e2)
    have f5 : τ 1 5 = σ 1 5 := hK'.1 1 5 rfl
    simp only [m_X7_carryOn_L70]
    rw [if_pos (by omega), Hp_some, Lq_inr]
    refine ⟨e2, e3, fun u hu hu2 => Bs_cg (e5 u hu hu2) (fun s => cw2_end (c := (σ, n, A, S, dr, t0)) hT (by simp only; omega) u i s)⟩
