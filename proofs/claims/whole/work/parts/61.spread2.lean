/-! spread, whole -/
theorem hh_s {c : Ky} {v i s : Nat} (hT : iTown c.1) (h : Hh c v i s) : s < 10 := by
  have := can_s h.1
  have := hT.1
  omega
/-- x is the first tick in which agent i has the word, looked for in the first v ticks -/
def FsI (c : Ky) (v i : Nat) (x : Int) : Prop := (x = -1 ∧ ∀ u, u < v → ∀ s, ¬ Hh c u i s) ∨ (∃ u : Nat, u < v ∧ x = ((c.2.2.2.2.2 + u : Nat) : Int) ∧ (∃ s, Hh c u i s) ∧ ∀ u', u' < u → ∀ s, ¬ Hh c u' i s)
theorem FsI_no {c : Ky} {v i : Nat} {x : Int} (h : FsI c v i x) (hn : ∀ s, ¬ Hh c v i s) : FsI c (v + 1) i x := by
  rcases h with ⟨h1, h2⟩ | ⟨u, h1, h2, h3⟩
  · refine Or.inl ⟨h1, fun u hu s => ?_⟩
    by_cases huv : u = v
    · subst huv; exact hn s
    · exact h2 u (by omega) s
  · exact Or.inr ⟨u, by omega, h2, h3⟩
theorem FsI_new {c : Ky} {v i : Nat} (h : FsI c v i (-1)) {s : Nat} (hs : Hh c v i s) : FsI c (v + 1) i ((c.2.2.2.2.2 + v : Nat) : Int) := by
  rcases h with ⟨h1, h2⟩ | ⟨u, h1, h2, h3⟩
  · exact Or.inr ⟨v, by omega, rfl, ⟨s, hs⟩, h2⟩
  · omega
theorem FsI_old {c : Ky} {v i : Nat} {x : Int} (h : FsI c v i x) (hx : x ≠ -1) : FsI c (v + 1) i x := by
  rcases h with ⟨h1, h2⟩ | ⟨u, h1, h2, h3⟩
  · exact absurd h1 hx
  · exact Or.inr ⟨u, by omega, h2, h3⟩
theorem Pg_no {c : Ky} {v i : Nat} (hn : ∀ s, ¬ Hh c v i s) (u s : Nat) : Pg c v u i s ↔ Pg c (v + 1) u i s := by
  unfold Pg
  constructor
  · rintro ⟨q1, (q2 | ⟨q2, q3, q4⟩ | ⟨o, l, ⟨q2, q3, q4⟩, q5⟩)⟩
    · exact ⟨q1, Or.inl q2⟩
    · exact ⟨q1, Or.inr (Or.inl ⟨q2, by omega, q4⟩)⟩
    · exact ⟨q1, Or.inr (Or.inr ⟨o, l, ⟨q2, q3, by omega⟩, q5⟩)⟩
  · rintro ⟨q1, (q2 | ⟨q2, q3, q4⟩ | ⟨o, l, ⟨q2, q3, q4⟩, q5, q6, q7⟩)⟩
    · exact ⟨q1, Or.inl q2⟩
    · by_cases h : u ≤ v
      · exact ⟨q1, Or.inr (Or.inl ⟨q2, h, q4⟩)⟩
      · have e : u - 1 = v := by omega
        rw [e] at q4
        exact absurd q4 (hn s)
    · by_cases h : u - l < v
      · exact ⟨q1, Or.inr (Or.inr ⟨o, l, ⟨q2, q3, h⟩, q5, q6, q7⟩)⟩
      · have e : u - l = v := by omega
        rw [e] at q7
        exact absurd q7 (hn o)
theorem carry_sp {c : Ky} {τ0 : St} {i v : Nat} (hT : iTown c.1) (hi : i < 8) (hv : c.2.2.2.2.2 + v < 96) (hK : KN c.1 τ0 c.2.1) (hR : RowC c.1 c.2.1 i τ0) (hh : Bs (τ0 (156 + i) (c.2.2.2.2.2 + v)) (Hh c v i)) (h0 : ∀ u : Nat, v < u → c.2.2.2.2.2 + u < 96 → Bs (τ0 (156 + i) (c.2.2.2.2.2 + u)) (Pg c v u i)) (hf : FsI c v i (τ0 154 i)) :
    Hp (m_X7_carryOn i ((c.2.2.2.2.2 + v : Nat) : Int) τ0) (fun τ => (∀ k j, k ≠ 156 + i → ¬ (k = 154 ∧ j = i) → τ k j = τ0 k j) ∧ FsI c (v + 1) i (τ 154 i) ∧ ∀ u : Nat, v < u → c.2.2.2.2.2 + u < 96 → Bs (τ (156 + i) (c.2.2.2.2.2 + u)) (Pg c (v + 1) u i)) := by
  have hz := Bs_zero_iff hh (fun s hs => by have := hh_s hT hs; omega)
  rw [m_X7_carryOn, rr_ok (by omega) (by omega), bnd_s, rd_ok (by omega) (by omega), bnd_s]
  simp only [Int.toNat_natCast, rf_has hi]
  by_cases h1 : τ0 (156 + i) (c.2.2.2.2.2 + v) = 0
  · have hn := hz.mp h1
    rw [if_pos h1, Hp_some]
    exact ⟨fun _ _ _ _ => rfl, FsI_no hf hn, fun u hu hu2 => Bs_cg (h0 u hu hu2) (fun s => Pg_no hn u s)⟩
  · have hsome : ∃ s, Hh c v i s := Classical.not_forall_not.mp (fun q => h1 (hz.mpr q))
    obtain ⟨s0, hs0⟩ := hsome
    rw [if_neg h1, rd_ok (by omega) (by omega), bnd_s]
    simp only [Int.toNat_natCast]
    -- from the note of the first tick on
    have go : ∀ τ1 : St, KN c.1 τ1 c.2.1 → RowC c.1 c.2.1 i τ1 → (∀ k j, ¬ (k = 154 ∧ j = i) → τ1 k j = τ0 k j) → FsI c (v + 1) i (τ1 154 i) → Hp (m_X7_carryOn_J31 ((c.2.2.2.2.2 + v : Nat) : Int) i (τ0 (156 + i) (c.2.2.2.2.2 + v)) τ1) (fun τ => (∀ k j, k ≠ 156 + i → ¬ (k = 154 ∧ j = i) → τ k j = τ0 k j) ∧ FsI c (v + 1) i (τ 154 i) ∧ ∀ u : Nat, v < u → c.2.2.2.2.2 + u < 96 → Bs (τ (156 + i) (c.2.2.2.2.2 + u)) (Pg c (v + 1) u i)) := by
      intro τ1 hK1 hR1 hsame hf1
      have fin : ∀ τ2 : St, KN c.1 τ2 c.2.1 → RowC c.1 c.2.1 i τ2 → (∀ k j, k ≠ 156 + i → τ2 k j = τ1 k j) → (∀ u : Nat, v < u → c.2.2.2.2.2 + u < 96 → Bs (τ2 (156 + i) (c.2.2.2.2.2 + u)) (cw2 c v 1 0 u i)) → Hp (m_X7_carryOn_J67 i ((c.2.2.2.2.2 + v : Nat) : Int) (τ0 (156 + i) (c.2.2.2.2.2 + v)) τ2) (fun τ => (∀ k j, k ≠ 156 + i → ¬ (k = 154 ∧ j = i) → τ k j = τ0 k j) ∧ FsI c (v + 1) i (τ 154 i) ∧ ∀ u : Nat, v < u → c.2.2.2.2.2 + u < 96 → Bs (τ (156 + i) (c.2.2.2.2.2 + u)) (Pg c (v + 1) u i)) := by
        intro τ2 hK2 hR2 hs2 hc2
        rw [m_X7_carryOn_J67, Hp_bind]
        refine Hp_mono (carry_w hT hi hv hK2 hR2 hh hc2) ?_
        rintro τ3 ⟨w3, -, z3⟩
        rw [Hp_some]
        refine ⟨?_, ?_, z3⟩
        · intro k j hk hkj
          rw [w3 k j (outRow hk j), hs2 k j hk, hsame k j hkj]
        · rw [w3 154 i (outRow (by omega) i), hs2 154 i (by omega)]; exact hf1
      have nx : wr (((c.2.2.2.2.2 + v : Nat) : Int) + 1) = ((c.2.2.2.2.2 + v + 1 : Nat) : Int) := nx1 (by omega)
      rw [m_X7_carryOn_J31, nx]
      have hrow : ∀ j, τ1 (156 + i) j = τ0 (156 + i) j := fun j => hsame _ j (by omega)
      by_cases hc : (96 : Int) ≤ ((c.2.2.2.2.2 + v + 1 : Nat) : Int)
      · rw [if_pos hc]
        exact fin τ1 hK1 hR1 (fun _ _ _ => rfl) (fun u hu hu2 => by omega)
      · rw [if_neg hc, rr_ok (by omega) (by omega), bnd_s, rd_ok (by omega) (by omega), bnd_s, rr_ok (by omega) (by omega), bnd_s, rd_ok (by omega) (by omega), bnd_s, Hp_bind, Hp_wt]
        refine ⟨by omega, ?_⟩
        simp only [Int.toNat_natCast, rf_has hi, rf_can hi]
        have hwu : Wr ([(156 + i, 156 + i)], []) τ1 (up τ1 (156 + i) (c.2.2.2.2.2 + v + 1) (orI (τ1 (156 + i) (c.2.2.2.2.2 + v + 1)) (andI (τ0 (156 + i) (c.2.2.2.2.2 + v)) (τ1 (97 + i) (c.2.2.2.2.2 + v + 1))))) := Wr_up Wr_rf (inRow _)
        refine fin _ (KN_step hK1 (Wr_row hi hwu)) ?_ ?_ ?_
        · intro t ht
          rw [up_cell (by omega), up_cell (by omega)]
          exact hR1 t ht
        · intro k j hk
          rw [up_cell hk]
        · intro u hu hu2
          by_cases hu1 : u = v + 1
          · subst hu1
            rw [show c.2.2.2.2.2 + (v + 1) = c.2.2.2.2.2 + v + 1 by omega, up_eq, hrow]
            have hcan := (hR1 (c.2.2.2.2.2 + v + 1) (by omega)).2
            have hold := h0 (v + 1) hu hu2
            rw [show c.2.2.2.2.2 + (v + 1) = c.2.2.2.2.2 + v + 1 by omega] at hold
            refine Bs_cg (Bs_or hold (Bs_and hh hcan)) ?_
            intro s
            unfold cw2
            constructor
            · rintro (q | ⟨q1, q2⟩)
              · exact Or.inl q
              · exact Or.inr ⟨q2, Or.inl ⟨rfl, rfl, q1⟩⟩
            · rintro (q | ⟨q1, (⟨-, -, q2⟩ | ⟨w, q3, -⟩)⟩)
              · exact Or.inl q
              · exact Or.inr ⟨q2, q1⟩
              · omega
          · rw [up_slot (by omega), hrow]
            refine Bs_cg (h0 u hu hu2) ?_
            intro s
            unfold cw2
            constructor
            · intro q; exact Or.inl q
            · rintro (q | ⟨q1, (⟨-, q2, -⟩ | ⟨w, q3, -⟩)⟩)
              · exact q
              · omega
              · omega
    by_cases h2 : τ0 154 i = -1
    · rw [if_pos h2, Hp_bind, Hp_wt]
      refine ⟨by omega, ?_⟩
      simp only [Int.toNat_natCast]
      refine go _ (KN_step hK (Wr_up Wr_rf rfl)) ?_ ?_ ?_
      · intro t ht
        rw [up_cell (by omega), up_cell (by omega)]
        exact hR t ht
      · intro k j hkj
        by_cases hk : k = 154
        · subst hk
          rw [up_slot (by omega)]
        · rw [up_cell hk]
      · rw [up_eq]
        rw [h2] at hf
        exact FsI_new hf hs0
    · rw [if_neg h2]
      exact go τ0 hK hR (fun _ _ _ => rfl) (FsI_old hf h2)
/-- between two ticks: rows and first ticks -/
def SpI (c : Ky) (v j : Nat) (τ : St) : Prop := KN c.1 τ c.2.1 ∧ (∀ a, a < c.2.2.1 → RowC c.1 c.2.1 a τ) ∧ (∀ a, a < j → a < c.2.2.1 → (∀ u, v < u → c.2.2.2.2.2 + u < 96 → Bs (τ (156 + a) (c.2.2.2.2.2 + u)) (Pg c (v + 1) u a)) ∧ FsI c (v + 1) a (τ 154 a)) ∧
  (∀ a, j ≤ a → a < c.2.2.1 → (∀ u, v ≤ u → c.2.2.2.2.2 + u < 96 → Bs (τ (156 + a) (c.2.2.2.2.2 + u)) (Pg c v u a)) ∧ FsI c v a (τ 154 a)) ∧ ∀ a, c.2.2.1 ≤ a → a < 8 → τ 154 a = -1
theorem spread_t {c : Ky} {τ0 : St} {v : Nat} {x36 : Int} (hT : iTown c.1) (hA : c.2.2.1 ≤ 8) (hv : c.2.2.2.2.2 + v < 96) (h0 : SpI c v 0 τ0) (hx : Bs x36 (Hd c v)) :
    Hp (lp (fun z => m_X7_spread_L158 (c.2.2.1 : Int) ((c.2.2.2.2.2 + v : Nat) : Int) x36 z.1 z.2) (0, τ0)) (fun τ => Wr ([(97, 104), (106, 117), (154, 154), (156, 163)], []) τ0 τ ∧ SpI c v c.2.2.1 τ) := by
  refine Hp_up (fun j (z : Int × St) => z.1 = (j : Int) ∧ Wr ([(97, 104), (106, 117), (154, 154), (156, 163)], []) τ0 z.2 ∧ SpI c v j z.2) 0 c.2.2.1 (by omega) (by omega) ⟨rfl, Wr_rf, h0⟩ ?_ ?_
  · rintro i ⟨x, τ⟩ - hi ⟨e1, e0, e2, e3, e4, e5, e6⟩
    simp only at e1 e0 e2 e3 e4 e5 e6
    subst e1
    have hi8 : i < 8 := by omega
    obtain ⟨g1, g2⟩ := e5 i (Nat.le_refl _) hi
    simp only [m_X7_spread_L158]
    rw [if_neg (by omega), rr_ok (by omega) (by omega), bnd_s, rd_ok (by omega) (by omega), bnd_s, rr_ok (by omega) (by omega), bnd_s, rd_ok (by omega) (by omega), bnd_s, Hp_bind, Hp_wt]
    refine ⟨by omega, ?_⟩
    simp only [Int.toNat_natCast, rf_has hi8, rf_can hi8]
    have hwu : Wr ([(156 + i, 156 + i)], []) τ (up τ (156 + i) (c.2.2.2.2.2 + v) (orI (τ (156 + i) (c.2.2.2.2.2 + v)) (andI x36 (τ (97 + i) (c.2.2.2.2.2 + v))))) := Wr_up Wr_rf (inRow _)
    have hcan := (e3 i hi (c.2.2.2.2.2 + v) hv).2
    rw [Hp_bind]
    refine Hp_mono (carry_sp (c := c) (v := v) hT hi8 hv (KN_step e2 (Wr_row hi8 hwu)) ?_ ?_ ?_ ?_) ?_
    · intro t ht
      rw [up_cell (by omega), up_cell (by omega)]
      exact e3 i hi t ht
    · rw [up_eq]
      refine Bs_cg (Bs_or (g1 v (Nat.le_refl _) hv) (Bs_and hx hcan)) ?_
      intro s
      constructor
      · rintro (q | ⟨q1, q2⟩)
        · exact ⟨q.1, (Hd_iff c v s).mpr (Or.inr ⟨i, hi, q⟩)⟩
        · exact ⟨q2, q1⟩
      · rintro ⟨q1, q2⟩; exact Or.inr ⟨q2, q1⟩
    · intro u hu hu2
      rw [up_slot (by omega)]
      exact g1 u (by omega) hu2
    · rw [up_cell (by omega)]; exact g2
    · rintro τ' ⟨s1, s2, s3⟩
      have hall : ∀ k j, k ≠ 156 + i → ¬ (k = 154 ∧ j = i) → τ' k j = τ k j := by
        intro k j h1 h2
        rw [s1 k j h1 h2, up_cell h1]
      have hww : Wr ([(97, 104), (106, 117), (154, 154), (156, 163)], []) τ τ' := by
        intro k j hk
        apply hall
        · rintro rfl
          have : ∀ i : Fin 8, inC [(97, 104), (106, 117), (154, 154), (156, 163)] (156 + i.val) = true := by decide
          unfold inR at hk
          rw [this ⟨i, hi8⟩] at hk
          exact absurd hk (by simp)
        · rintro ⟨rfl, -⟩
          exact absurd hk (by simp [inR, inC])
      rw [Hp_some, Lq_inl, nx1 (by omega)]
      refine ⟨rfl, Wr_tr e0 hww, KN_step e2 hww, ?_, ?_, ?_, ?_⟩
      · intro a ha t ht
        simp only
        rw [hall (106 + a) t (by omega) (by omega), hall (97 + a) t (by omega) (by omega)]
        exact e3 a ha t ht
      · intro a ha haA
        simp only
        by_cases hai : a = i
        · subst hai; exact ⟨s3, s2⟩
        · obtain ⟨q1, q2⟩ := e4 a (by omega) haA
          refine ⟨fun u hu hu2 => ?_, ?_⟩
          · rw [hall (156 + a) _ (by omega) (by omega)]; exact q1 u hu hu2
          · rw [hall 154 a (by omega) (by omega)]; exact q2
      · intro a ha haA
        simp only
        obtain ⟨q1, q2⟩ := e5 a (by omega) haA
        refine ⟨fun u hu hu2 => ?_, ?_⟩
        · rw [hall (156 + a) _ (by omega) (by omega)]; exact q1 u hu hu2
        · rw [hall 154 a (by omega) (by omega)]; exact q2
      · intro a ha ha8
        simp only
        rw [hall 154 a (by omega) (by omega)]
        exact e6 a ha ha8
  · rintro ⟨x, τ⟩ ⟨e1, e0, e2⟩
    simp only at e1 e0 e2
    subst e1
    simp only [m_X7_spread_L158]
    rw [if_pos (by omega), Hp_some, Lq_inr]
    exact ⟨e0, e2⟩
theorem heard_sp {c : Ky} {τ : St} {v : Nat} {x28 : Int} (hA : c.2.2.1 ≤ 8) (hv : c.2.2.2.2.2 + v < 96) (h0 : SpI c v 0 τ) (hx : Bs x28 (fun s => c.2.2.2.2.1 ∧ 1 ≤ v ∧ Hd c (v - 1) s)) :
    Hp (lp (fun z => m_X7_spread_L123 (c.2.2.1 : Int) τ ((c.2.2.2.2.2 + v : Nat) : Int) z.1 z.2) (x28, 0)) (fun x => Bs x (Hd c v)) := by
  obtain ⟨e2, e3, e4, e5, e6⟩ := h0
  refine Hp_up (fun j (z : Int × Int) => z.2 = (j : Int) ∧ Bs z.1 (fun s => (c.2.2.2.2.1 ∧ 1 ≤ v ∧ Hd c (v - 1) s) ∨ ∃ a, a < j ∧ Pg c v v a s)) 0 c.2.2.1 (by omega) (by omega) ⟨rfl, Bs_cg hx (fun s => ⟨Or.inl, fun q => q.elim id (fun ⟨a, h, _⟩ => by omega)⟩)⟩ ?_ ?_
  · rintro i ⟨y, x⟩ - hi ⟨f1, f2⟩
    simp only at f1 f2
    subst f1
    simp only [m_X7_spread_L123]
    rw [if_neg (by omega), rr_ok (by omega) (by omega), bnd_s, rd_ok (by omega) (by omega), bnd_s]
    simp only [Int.toNat_natCast, rf_has (show i < 8 by omega), vl, bnd_s]
    rw [Hp_some, Lq_inl, nx1 (by omega)]
    refine ⟨rfl, Bs_cg (Bs_or f2 ((e5 i (by omega) hi).1 v (Nat.le_refl _) hv)) ?_⟩
    intro s
    constructor
    · rintro ((q | ⟨a, q1, q2⟩) | q)
      · exact Or.inl q
      · exact Or.inr ⟨a, by omega, q2⟩
      · exact Or.inr ⟨i, by omega, q⟩
    · rintro (q | ⟨a, q1, q2⟩)
      · exact Or.inl (Or.inl q)
      · by_cases hai : a = i
        · subst hai; exact Or.inr q2
        · exact Or.inl (Or.inr ⟨a, by omega, q2⟩)
  · rintro ⟨y, x⟩ ⟨f1, f2⟩
    simp only at f1 f2
    subst f1
    simp only [m_X7_spread_L123]
    rw [if_pos (by omega), Hp_some, Lq_inr]
    exact Bs_cg f2 (fun s => (Hd_iff c v s).symm)
theorem spread_i {c : Ky} {τ0 : St} {set : Int} (hA : c.2.2.1 ≤ 8) (ht : c.2.2.2.2.2 < 96) (hK : KN c.1 τ0 c.2.1) (hR : ∀ a, a < c.2.2.1 → RowC c.1 c.2.1 a τ0) (hS : ∀ a, c.2.2.2.1 a ↔ tb set a = true) :
    Hp (lp (fun z => m_X7_spread_L12 set (c.2.2.2.2.2 : Int) z.1 z.2) (0, τ0)) (fun τ => Wr ([(97, 104), (106, 117), (154, 154), (156, 163)], []) τ0 τ ∧ SpI c 0 0 τ) := by
  refine Hp_up (fun j (z : Int × St) => z.1 = (j : Int) ∧ Wr ([(97, 104), (106, 117), (154, 154), (156, 163)], []) τ0 z.2 ∧ (∀ k, k < 154 → z.2 k = τ0 k) ∧ ∀ a, a < j → z.2 154 a = -1 ∧ (a < c.2.2.1 → ∀ d, c.2.2.2.2.2 ≤ d → d < 96 → Bs (z.2 (156 + a) d) (fun s => cCan c a d s ∧ c.2.2.2.1 a))) 0 8 (by omega) (by omega) ⟨rfl, Wr_rf, fun _ _ => rfl, fun a h => by omega⟩ ?_ ?_
  · rintro i ⟨x, τ⟩ - hi ⟨e1, e2, e3, e4⟩
    simp only at e1 e2 e3 e4
    subst e1
    simp only [m_X7_spread_L12]
    rw [if_neg (by omega), Hp_bind, Hp_wt]
    refine ⟨by omega, ?_⟩
    rw [Hp_bind]
    simp only [Int.toNat_natCast]
    refine Hp_up (fun j (z : Int × St) => z.1 = (j : Int) ∧ Wr ([(156 + i, 156 + i)], []) (up τ 154 i (-1)) z.2 ∧ ∀ d, d < j → (i < c.2.2.1 → c.2.2.2.2.2 ≤ d → Bs (z.2 (156 + i) d) (fun s => cCan c i d s ∧ c.2.2.2.1 i))) 0 96 (by omega) (by omega) ⟨rfl, Wr_rf, fun d h => by omega⟩ ?_ ?_
    · rintro d ⟨x, ρ⟩ - hd ⟨g1, g2, g3⟩
      simp only at g1 g2 g3
      subst g1
      have put : ∀ val : Int, (i < c.2.2.1 → c.2.2.2.2.2 ≤ d → Bs val (fun s => cCan c i d s ∧ c.2.2.2.1 i)) → (((d + 1 : Nat) : Int) = ((d + 1 : Nat) : Int) ∧ Wr ([(156 + i, 156 + i)], []) (up τ 154 i (-1)) (up ρ (156 + i) d val) ∧ ∀ d', d' < d + 1 → (i < c.2.2.1 → c.2.2.2.2.2 ≤ d' → Bs (up ρ (156 + i) d val (156 + i) d') (fun s => cCan c i d' s ∧ c.2.2.2.1 i))) := by
        intro val hval
        refine ⟨rfl, Wr_up g2 (inRow _), ?_⟩
        intro d' hd' hiA hd0
        by_cases hdd : d' = d
        · subst hdd; rw [up_eq]; exact hval hiA hd0
        · rw [up_slot hdd]; exact g3 d' (by omega) hiA hd0
      have f97 : ρ (97 + i) d = τ0 (97 + i) d := by
        rw [g2 (97 + i) d (outRow (by omega) d), up_cell (by omega), e3 (97 + i) (by omega)]
      simp only [m_X7_spread_L30]
      rw [if_neg (by omega), rr_ok (by omega) (by omega), bnd_s, bit_at set (by omega)]
      simp only [Int.toNat_natCast, rf_has hi]
      by_cases hb : tb set i = true
      · rw [if_pos hb, if_neg (by decide)]
        by_cases hdt : (d : Int) < (c.2.2.2.2.2 : Int)
        · rw [if_pos hdt, Hp_bind, Hp_wt]
          refine ⟨by omega, ?_⟩
          rw [Hp_some, Lq_inl, nx1 (by omega), Int.toNat_natCast]
          exact put 0 (fun _ h => by omega)
        · rw [if_neg hdt, rr_ok (by omega) (by omega), bnd_s, rd_ok (by omega) (by omega), bnd_s, Hp_bind, Hp_wt]
          refine ⟨by omega, ?_⟩
          rw [Hp_some, Lq_inl, nx1 (by omega)]
          simp only [Int.toNat_natCast, rf_can hi]
          have hp := put (ρ (97 + i) d) (fun hiA _ => by
            rw [f97]
            exact Bs_cg ((hR i hiA d hd).2) (fun s => ⟨fun q => ⟨q, (hS i).mpr hb⟩, fun q => q.1⟩))
          exact ⟨by trivial, hp.2⟩
      · rw [if_neg hb, if_pos rfl, Hp_bind, Hp_wt]
        refine ⟨by omega, ?_⟩
        rw [Hp_some, Lq_inl, nx1 (by omega), Int.toNat_natCast]
        exact put 0 (fun _ _ => Bs_cg Bs_zero (fun s => ⟨fun q => absurd q id, fun q => hb ((hS i).mp q.2)⟩))
    · rintro ⟨x, ρ⟩ ⟨g1, g2, g3⟩
      simp only at g1 g2 g3
      subst g1
      simp only [m_X7_spread_L30]
      rw [if_pos (by omega), Hp_some, Lq_inr, Hp_some, Lq_inl, nx1 (by omega)]
      refine ⟨rfl, Wr_tr e2 (Wr_tr (Wr_up Wr_rf rfl) (Wr_row hi g2)), ?_, ?_⟩
      · intro k hk
        simp only
        rw [← e3 k hk]
        funext j
        rw [g2 k j (outRow (by omega) j), up_cell (by omega)]
      · intro a ha
        simp only
        rw [g2 154 a (outRow (by omega) a)]
        by_cases hai : a = i
        · subst hai
          rw [up_eq]
          exact ⟨rfl, fun haA d h1 h2 => g3 d h2 haA h1⟩
        · rw [up_slot hai]
          refine ⟨(e4 a (by omega)).1, fun haA d h1 h2 => ?_⟩
          rw [g2 (156 + a) d (outRow (by omega) d), up_cell (by omega)]
          exact (e4 a (by omega)).2 haA d h1 h2
  · rintro ⟨x, τ⟩ ⟨e1, e2, e3, e4⟩
    simp only at e1 e2 e3 e4
    subst e1
    simp only [m_X7_spread_L12]
    rw [if_pos (by omega), Hp_some, Lq_inr]
    refine ⟨e2, KN_step hK e2, ?_, fun a h => by omega, ?_, ?_⟩
    · intro a ha t ht2
      rw [e3 (106 + a) (by omega), e3 (97 + a) (by omega)]
      exact hR a ha t ht2
    · intro a _ ha
      obtain ⟨q1, q2⟩ := e4 a (by omega)
      refine ⟨fun u _ hu => Bs_cg (q2 ha _ (by omega) hu) ?_, Or.inl ⟨q1, fun u hu => by omega⟩⟩
      intro s
      constructor
      · rintro ⟨r1, r2⟩; exact ⟨r1, Or.inl r2⟩
      · rintro ⟨r1, (r2 | ⟨r2, r3, -⟩ | ⟨o, l, ⟨r2, r3, r4⟩, -⟩)⟩
        · exact ⟨r1, r2⟩
        · omega
        · omega
    · intro a ha ha8
      exact (e4 a ha8).1
theorem spread_sp {c : Ky} {τ0 : St} {set drops : Int} (hT : iTown c.1) (hA : c.2.2.1 ≤ 8) (ht : c.2.2.2.2.2 < 96) (hK : KN c.1 τ0 c.2.1) (hR : ∀ a, a < c.2.2.1 → RowC c.1 c.2.1 a τ0) (hS : ∀ a, c.2.2.2.1 a ↔ tb set a = true) (hd : c.2.2.2.2.1 ↔ ¬ drops = 0) :
    Hp (m_X7_spread set (c.2.2.2.2.2 : Int) drops (c.2.2.1 : Int) τ0) (fun τ => Wr ([(97, 104), (106, 117), (154, 154), (156, 163)], []) τ0 τ ∧ KN c.1 τ c.2.1 ∧ (∀ a, a < c.2.2.1 → RowC c.1 c.2.1 a τ) ∧ (∀ a, a < c.2.2.1 → FsI c (96 - c.2.2.2.2.2) a (τ 154 a)) ∧ ∀ a, c.2.2.1 ≤ a → a < 8 → τ 154 a = -1) := by
  have hmin : minI (c.2.2.1 : Int) 8 = (c.2.2.1 : Int) := by unfold minI; split <;> omega
  have hmax : maxI (c.2.2.2.2.2 : Int) 0 = (c.2.2.2.2.2 : Int) := by unfold maxI; split <;> omega
  obtain ⟨τ1, o1, w1, s1⟩ := spread_i (set := set) hA ht hK hR hS
  rw [m_X7_spread, hmin, hmax]
  simp only [vl]
  rw [bnd_s, o1, bnd_s, bnd_s, Hp_bind]
  simp only [Hp_some]
  refine Hp_up (fun j (z : Int × Int × St) => z.2.1 = (j : Int) ∧ Wr ([(97, 104), (106, 117), (154, 154), (156, 163)], []) τ0 z.2.2 ∧ Bs z.1 (fun s => 1 ≤ j - c.2.2.2.2.2 ∧ Hd c (j - c.2.2.2.2.2 - 1) s) ∧ SpI c (j - c.2.2.2.2.2) 0 z.2.2) c.2.2.2.2.2 96 (by omega) (by omega) ⟨rfl, w1, Bs_cg Bs_zero (fun s => ⟨fun q => absurd q id, fun q => by omega⟩), by rw [Nat.sub_self]; exact s1⟩ ?_ ?_
  · rintro t ⟨x, y, τ⟩ ht1 ht2 ⟨e1, e0, e2, e3⟩
    simp only at e1 e0 e2 e3
    subst e1
    obtain ⟨v, rfl⟩ : ∃ v, t = c.2.2.2.2.2 + v := ⟨t - c.2.2.2.2.2, by omega⟩
    rw [show c.2.2.2.2.2 + v - c.2.2.2.2.2 = v by omega] at e2 e3
    have key : ∀ x28 : Int, Bs x28 (fun s => c.2.2.2.2.1 ∧ 1 ≤ v ∧ Hd c (v - 1) s) → Hp (m_X7_spread_J118 (c.2.2.1 : Int) τ ((c.2.2.2.2.2 + v : Nat) : Int) x28) (Lq (fun τ => Wr ([(97, 104), (106, 117), (154, 154), (156, 163)], []) τ0 τ ∧ KN c.1 τ c.2.1 ∧ (∀ a, a < c.2.2.1 → RowC c.1 c.2.1 a τ) ∧ (∀ a, a < c.2.2.1 → FsI c (96 - c.2.2.2.2.2) a (τ 154 a)) ∧ ∀ a, c.2.2.1 ≤ a → a < 8 → τ 154 a = -1) (fun (z : Int × Int × St) => z.2.1 = ((c.2.2.2.2.2 + v + 1 : Nat) : Int) ∧ Wr ([(97, 104), (106, 117), (154, 154), (156, 163)], []) τ0 z.2.2 ∧ Bs z.1 (fun s => 1 ≤ c.2.2.2.2.2 + v + 1 - c.2.2.2.2.2 ∧ Hd c (c.2.2.2.2.2 + v + 1 - c.2.2.2.2.2 - 1) s) ∧ SpI c (c.2.2.2.2.2 + v + 1 - c.2.2.2.2.2) 0 z.2.2)) := by
      intro x28 hx
      rw [m_X7_spread_J118, Hp_bind]
      refine Hp_mono (heard_sp hA ht2 e3 hx) ?_
      intro x36 hx36
      rw [Hp_bind]
      refine Hp_mono (spread_t hT hA ht2 e3 hx36) ?_
      rintro τ2 ⟨w2, f2, f3, f4, f5, f6⟩
      rw [Hp_some, Lq_inl, nx1 (by omega), show c.2.2.2.2.2 + v + 1 - c.2.2.2.2.2 = v + 1 by omega, show v + 1 - 1 = v by omega]
      refine ⟨rfl, Wr_tr e0 w2, Bs_cg hx36 (fun s => ⟨fun q => ⟨by omega, q⟩, fun q => q.2⟩), f2, f3, fun a h => by omega, ?_, f6⟩
      intro a _ ha
      obtain ⟨q1, q2⟩ := f4 a ha ha
      exact ⟨fun u hu hu2 => q1 u (by omega) hu2, q2⟩
    simp only [m_X7_spread_L101]
    rw [if_neg (by omega)]
    by_cases hdr : drops = 0
    · rw [if_pos hdr]
      exact key 0 (Bs_cg Bs_zero (fun s => ⟨fun q => absurd q id, fun q => (hd.mp q.1) hdr⟩))
    · rw [if_neg hdr]
      exact key x (Bs_cg e2 (fun s => ⟨fun q => ⟨hd.mpr hdr, q⟩, fun q => q.2⟩))
  · rintro ⟨x, y, τ⟩ ⟨e1, e0, e2, e3⟩
    simp only at e1 e0 e2 e3
    subst e1
    obtain ⟨f2, f3, f4, f5, f6⟩ := e3
    simp only [m_X7_spread_L101]
    rw [if_pos (by omega), Hp_some, Lq_inr]
    exact ⟨e0, f2, f3, fun a ha => (f5 a (by omega) ha).2, f6⟩
theorem knowers_sp {τ : St} {by' : Int} : Hp (m_X7_knowersBy by' τ) (fun x => Bs x (fun i => i < 8 ∧ τ 154 i ≠ -1 ∧ τ 154 i ≤ by')) := by
  rw [m_X7_knowersBy, Hp_bind]
  simp only [Hp_some]
  refine Hp_up (fun j (z : Int × Int) => z.2 = (j : Int) ∧ Bs z.1 (fun i => i < j ∧ τ 154 i ≠ -1 ∧ τ 154 i ≤ by')) 0 8 (by omega) (by omega) ⟨rfl, Bs_cg Bs_zero (fun s => ⟨fun q => absurd q id, fun q => by omega⟩)⟩ ?_ ?_
  · rintro j ⟨y, x⟩ - hj ⟨e1, e2⟩
    simp only at e1 e2
    subst e1
    have hno : ¬ (τ 154 j ≠ -1 ∧ τ 154 j ≤ by') → Bs y (fun i => i < j + 1 ∧ τ 154 i ≠ -1 ∧ τ 154 i ≤ by') := by
      intro h
      refine Bs_cg e2 ?_
      intro s
      constructor
      · rintro ⟨q1, q2⟩; exact ⟨by omega, q2⟩
      · rintro ⟨q1, q2⟩
        by_cases hsj : s = j
        · subst hsj; exact absurd q2 h
        · exact ⟨by omega, q2⟩
    simp only [m_X7_knowersBy_L4]
    rw [if_neg (by omega), rd_ok (by omega) (by omega), bnd_s, Int.toNat_natCast]
    by_cases h1 : τ 154 j = -1
    · rw [if_pos h1, Hp_some, Lq_inl, nx1 (by omega)]
      exact ⟨rfl, hno (fun q => q.1 h1)⟩
    · rw [if_neg h1, bnd_s]
      by_cases h2 : by' < τ 154 j
      · rw [if_pos h2, Hp_some, Lq_inl, nx1 (by omega)]
        exact ⟨rfl, hno (fun q => by omega)⟩
      · rw [if_neg h2]
        simp only [vl]
        rw [bnd_s, Hp_some, Lq_inl, nx1 (by omega)]
        refine ⟨rfl, Bs_cg (Bs_or e2 (Bs_bit (i := j) (by omega))) ?_⟩
        intro s
        constructor
        · rintro (⟨q1, q2⟩ | q)
          · exact ⟨by omega, q2⟩
          · subst q; exact ⟨by omega, h1, by omega⟩
        · rintro ⟨q1, q2⟩
          by_cases hsj : s = j
          · exact Or.inr hsj
          · exact Or.inl ⟨by omega, q2⟩
  · rintro ⟨y, x⟩ ⟨e1, e2⟩
    simp only at e1 e2
    subst e1
    simp only [m_X7_knowersBy_L4]
    rw [if_pos (by omega), Hp_some, Lq_inr]
    exact e2
