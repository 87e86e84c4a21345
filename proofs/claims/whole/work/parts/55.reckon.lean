/-! an agent's rows reckoned -/
theorem nxf_step {σ : St} {n : Int} {a j : Nat} {v : Int} (h : NxF σ n a (j + 1) v) (hj : j < 96) : (Sgtd σ n a j → NxF σ n a j j) ∧ (¬ Sgtd σ n a j → NxF σ n a j v) := by
  constructor
  · intro q
    exact Or.inr ⟨j, rfl, Nat.le_refl _, hj, q, fun d h1 h2 => by omega⟩
  · intro q
    rcases h with ⟨h1, h2⟩ | ⟨v', h1, h2, h3, h4, h5⟩
    · refine Or.inl ⟨h1, ?_⟩
      intro d hd hd2
      by_cases hdj : d = j
      · subst hdj; exact q
      · exact h2 d (by omega) hd2
    · refine Or.inr ⟨v', h1, by omega, h3, h4, ?_⟩
      intro d hd hd2
      by_cases hdj : d = j
      · subst hdj; exact q
      · exact h5 d (by omega) hd2
theorem reck_a {σ τ0 : St} {n : Int} {a : Nat} (hB : iBook σ) (hT : iTown σ) (hn : 0 ≤ n ∧ n ≤ σ 30 5) (ha : a < 8) (h : KN σ τ0 n) (hs : ∀ t : Nat, t < 96 → InI (τ0 114 t) ∧ ∀ s : Nat, s < 32 → (tb (τ0 114 t) s = true ↔ ∀ k, Sgt σ n a t k → σ 197 k = s)) :
    Hp (lp (fun z => m_X6_reckon_L23 a z.1 z.2.1 z.2.2) (1000, 95, τ0)) (fun τ => Wr ([(106 + a, 106 + a), (115, 115)], []) τ0 τ ∧ ∀ d : Nat, d < 96 → NxF σ n a (d + 1) (τ (106 + a) d) ∧ Bs (τ 115 d) (May σ n a d)) := by
  have t1 := hT.1
  have inA : ∀ j : Nat, inR ([(106 + a, 106 + a), (115, 115)], []) (106 + a) j = true := by intro j; simp [inR, inC]
  have inB : ∀ j : Nat, inR ([(106 + a, 106 + a), (115, 115)], []) 115 j = true := by intro j; simp [inR, inC]
  have out : ∀ k j : Nat, k ≠ 106 + a → k ≠ 115 → inR ([(106 + a, 106 + a), (115, 115)], []) k j = false := by
    intro k j h1 h2
    simp only [inR, inC, inS, List.any_cons, List.any_nil, Bool.or_false, Bool.or_eq_false_iff, Bool.and_eq_false_iff]
    simp only [Bool.eq_false_iff, ne_eq, Nat.ble_eq]
    omega
  refine Hp_dn (fun j (z : Int × Int × St) => z.2.1 = (j : Int) - 1 ∧ Wr ([(106 + a, 106 + a), (115, 115)], []) τ0 z.2.2 ∧ NxF σ n a j z.1 ∧ ∀ d : Nat, j ≤ d → d < 96 → NxF σ n a (d + 1) (z.2.2 (106 + a) d) ∧ Bs (z.2.2 115 d) (May σ n a d)) 96 (by omega) ⟨rfl, Wr_rf, Or.inl ⟨rfl, fun d h1 h2 => by omega⟩, fun d h1 h2 => by omega⟩ ?_ ?_
  · rintro j ⟨v, x, τ⟩ hj ⟨e1, e2, e3, e4⟩
    simp only at e1 e2 e3 e4
    have hx : x = (j : Int) := by omega
    subst hx
    have hnx : wr ((j : Int) + (-1)) = (j : Int) - 1 := by rw [wr_id' (by omega) (by omega)]; omega
    have f114 : τ 114 j = τ0 114 j := e2 114 j (out 114 j (by omega) (by omega))
    have f37 : τ 37 j = τ0 37 j := e2 37 j (out 37 j (by omega) (by omega))
    have f14 : τ 1 4 = σ 1 4 := (e2 1 4 (out 1 4 (by omega) (by omega))).trans (h.1 1 4 rfl)
    have hse := seen_iff (hs j hj)
    obtain ⟨n1, n2⟩ := nxf_step e3 hj
    simp only [m_X6_reckon_L23]
    rw [if_neg (by omega), rr_ok (by omega) (by omega), bnd_s, Int.toNat_natCast, rf_next ha, Hp_bind, Hp_wt]
    refine ⟨by omega, ?_⟩
    rw [Int.toNat_natCast, rd_ok (by omega) (by omega), bnd_s, Int.toNat_natCast, up_cell (by omega), f114]
    by_cases hz : τ0 114 j = -1
    · have hns := hse.mp hz
      rw [if_pos hz, all_eq, bnd_s, rd_ok (by omega) (by omega), bnd_s, Int.toNat_natCast, up_cell (by omega), up_cell (by omega), f37, f14, Hp_bind, Hp_wt]
      refine ⟨by omega, ?_⟩
      rw [Int.toNat_natCast, Hp_some, Lq_inl, hnx]
      refine ⟨rfl, Wr_up (Wr_up e2 (inA _)) (inB _), n2 hns, ?_⟩
      intro d h1 h2
      simp only
      by_cases hdj : d = j
      · subst hdj
        rw [up_cell (by omega), up_eq, up_eq]
        exact ⟨e3, may_unseen hT (h.2.2.2 d hj) hns⟩
      · rw [up_cell (by omega), up_slot hdj, up_slot hdj, up_cell (by omega)]
        exact e4 d (by omega) h2
    · have hsd : Sgtd σ n a j := Classical.not_not.mp (fun q => hz (hse.mpr q))
      rw [if_neg hz, bnd_s, Hp_bind, Hp_wt]
      refine ⟨by omega, ?_⟩
      rw [Int.toNat_natCast, Hp_some, Lq_inl, hnx]
      refine ⟨rfl, Wr_up (Wr_up e2 (inA _)) (inB _), n1 hsd, ?_⟩
      intro d h1 h2
      simp only
      by_cases hdj : d = j
      · subst hdj
        rw [up_cell (by omega), up_eq, up_eq]
        exact ⟨e3, may_seen hB hT hn (hs d hj) hsd⟩
      · rw [up_cell (by omega), up_slot hdj, up_slot hdj, up_cell (by omega)]
        exact e4 d (by omega) h2
  · rintro ⟨v, x, τ⟩ ⟨e1, e2, e3, e4⟩
    simp only at e1 e2 e3 e4
    simp only [m_X6_reckon_L23]
    rw [if_pos (by omega), Hp_some, Lq_inr]
    exact ⟨e2, fun d hd => e4 d (by omega) hd⟩
/-- the tick in which a way ends -/
theorem arrival_sp {σ τ : St} {n : Int} {a t w : Nat} {l : Int} (ha : a < 8) (ht : t < 96) (hT : iTown σ) (hw : (w : Int) < σ 1 5) (h4 : τ 4 = σ 4) (hl : σ 4 w = l) (hN : NxF σ n a (t + 1) (τ (106 + a) t)) :
    ∃ e, m_X6_arrival a t w τ = some e ∧ ((Unsn σ n a t l.toNat ∧ e = t + l) ∨ (¬ Unsn σ n a t l.toNat ∧ e = 1000)) := by
  have t2 := hT.2.1
  obtain ⟨A, B, L, -, -, e4, -, -, -, -, -, -, l1, l2, -⟩ := town_way hT hw
  rw [m_X6_arrival, rd_ok (by omega) (by omega), bnd_s, Int.toNat_natCast, h4, hl]
  simp only [vl, bnd_s]
  rw [wr_id' (by omega) (by omega), rr_ok (by omega) (by omega), bnd_s, Int.toNat_natCast, rf_next ha, rd_ok (by omega) (by omega), bnd_s, Int.toNat_natCast]
  rcases hN with ⟨h1, h2⟩ | ⟨v, h1, h2, h3, h5, h6⟩
  · rw [h1, if_neg (by omega)]
    exact ⟨_, rfl, Or.inl ⟨fun d d1 d2 d3 => h2 d (by omega) d3, rfl⟩⟩
  · rw [h1]
    by_cases hc : (v : Int) < t + l
    · rw [if_pos hc]
      exact ⟨_, rfl, Or.inr ⟨fun q => q v (by omega) (by omega) h3 h5, rfl⟩⟩
    · rw [if_neg hc]
      exact ⟨_, rfl, Or.inl ⟨fun d d1 d2 d3 => h6 d (by omega) (by omega), rfl⟩⟩
/-- way w leads from o to s -/
def WAt (σ : St) (w s o : Nat) : Prop := (σ 2 w = s ∧ σ 3 w = o) ∨ (σ 2 w = o ∧ σ 3 w = s)
theorem way_iff {σ : St} (hT : iTown σ) (s o l : Nat) : Way σ s o l ↔ ∃ w : Nat, (w : Int) < σ 1 5 ∧ WAt σ w s o ∧ σ 4 w = l := by
  obtain ⟨t1, t2, t3⟩ := hT
  unfold Way WAt
  constructor
  · rintro ⟨w, h1, h2, h3⟩
    have := t3 w (by omega)
    exact ⟨w, by omega, by omega, by omega⟩
  · rintro ⟨w, h1, h2, h3⟩
    have := t3 w (by omega)
    exact ⟨w, by omega, by omega, by omega⟩
/-- where rows of the first t ticks lead to -/
def Gf (σ : St) (n : Int) (a t d s : Nat) : Prop := May σ n a d s ∧ (d = 0 ∨ (1 ≤ d ∧ d ≤ t ∧ Fth σ n a (d - 1) s) ∨ ∃ o l, (1 ≤ l ∧ l ≤ d ∧ d - l < t) ∧ Way σ s o l ∧ Unsn σ n a (d - l) l ∧ Fth σ n a (d - l) o)
theorem Gf_diag {σ : St} {n : Int} {a t d : Nat} (h : d ≤ t) (s : Nat) : Gf σ n a t d s ↔ Fth σ n a d s := by
  cases d with
  | zero =>
    rw [Fth]
    exact ⟨fun q => q.1, fun q => ⟨q, Or.inl rfl⟩⟩
  | succ d =>
    rw [Fth]
    constructor
    · rintro ⟨q1, (q2 | ⟨-, -, q2⟩ | ⟨o, l, ⟨q2, q3, q4⟩, q5, q6, q7⟩)⟩
      · omega
      · exact ⟨q1, Or.inl q2⟩
      · exact ⟨q1, Or.inr ⟨o, l, ⟨q2, q3⟩, q5, q6, q7⟩⟩
    · rintro ⟨q1, (q2 | ⟨o, l, ⟨q2, q3⟩, q5, q6, q7⟩)⟩
      · exact ⟨q1, Or.inr (Or.inl ⟨by omega, h, q2⟩)⟩
      · exact ⟨q1, Or.inr (Or.inr ⟨o, l, ⟨q2, q3, by omega⟩, q5, q6, q7⟩)⟩
/-- and of tick t, by staying (m = 1) and by the first j ways -/
def Hf (σ : St) (n : Int) (a t m j d s : Nat) : Prop := Gf σ n a t d s ∨ (May σ n a d s ∧ ((m = 1 ∧ d = t + 1 ∧ Fth σ n a t s) ∨ ∃ w : Nat, w < j ∧ ∃ o, WAt σ w s o ∧ d = t + (σ 4 w).toNat ∧ Unsn σ n a t (σ 4 w).toNat ∧ Fth σ n a t o))
theorem Hf_end {σ : St} {n : Int} {a t : Nat} (hT : iTown σ) {j : Nat} (hj : (j : Int) = σ 1 5) (d s : Nat) : Hf σ n a t 1 j d s ↔ Gf σ n a (t + 1) d s := by
  constructor
  · rintro (⟨q1, (q2 | ⟨q2, q3, q4⟩ | ⟨o, l, ⟨q2, q3, q4⟩, q5, q6, q7⟩)⟩ | ⟨q1, (⟨-, q2, q3⟩ | ⟨w, q2, o, q3, q4, q5, q6⟩)⟩)
    · exact ⟨q1, Or.inl q2⟩
    · exact ⟨q1, Or.inr (Or.inl ⟨q2, by omega, q4⟩)⟩
    · exact ⟨q1, Or.inr (Or.inr ⟨o, l, ⟨q2, q3, by omega⟩, q5, q6, q7⟩)⟩
    · exact ⟨q1, Or.inr (Or.inl ⟨by omega, by omega, by rw [show d - 1 = t by omega]; exact q3⟩)⟩
    · obtain ⟨A, B, L, -, -, e4, -, -, -, -, -, -, l1, l2, -⟩ := town_way hT (w := w) (by omega)
      refine ⟨q1, Or.inr (Or.inr ⟨o, (σ 4 w).toNat, ⟨by omega, by omega, by omega⟩, ?_, ?_, ?_⟩)⟩
      · rw [way_iff hT]; exact ⟨w, by omega, q3, by omega⟩
      · rw [show d - (σ 4 w).toNat = t by omega]; exact q5
      · rw [show d - (σ 4 w).toNat = t by omega]; exact q6
  · rintro ⟨q1, (q2 | ⟨q2, q3, q4⟩ | ⟨o, l, ⟨q2, q3, q4⟩, q5, q6, q7⟩)⟩
    · exact Or.inl ⟨q1, Or.inl q2⟩
    · by_cases hd : d ≤ t
      · exact Or.inl ⟨q1, Or.inr (Or.inl ⟨q2, hd, q4⟩)⟩
      · exact Or.inr ⟨q1, Or.inl ⟨rfl, by omega, by rw [show t = d - 1 by omega]; exact q4⟩⟩
    · by_cases hd : d - l < t
      · exact Or.inl ⟨q1, Or.inr (Or.inr ⟨o, l, ⟨q2, q3, hd⟩, q5, q6, q7⟩)⟩
      · rw [way_iff hT] at q5
        obtain ⟨w, w1, w2, w3⟩ := q5
        have e : d - l = t := by omega
        rw [e] at q6 q7
        refine Or.inr ⟨q1, Or.inr ⟨w, by omega, o, w2, by omega, ?_, q7⟩⟩
        rw [show (σ 4 w).toNat = l by omega]; exact q6
theorem forth_w {σ τ0 : St} {n : Int} {a t : Nat} (hT : iTown σ) (ha : a < 8) (ht : t < 96) (h2 : τ0 2 = σ 2) (h3 : τ0 3 = σ 3) (h4 : τ0 4 = σ 4) (h5 : τ0 1 5 = σ 1 5) (hN : NxF σ n a (t + 1) (τ0 (106 + a) t)) (hM : ∀ d : Nat, d < 96 → Bs (τ0 115 d) (May σ n a d)) (h0 : ∀ d : Nat, d < 96 → Bs (τ0 116 d) (Hf σ n a t 1 0 d)) :
    Hp (lp (fun z => m_X6_goForth_L78 a t z.1 z.2) (0, τ0)) (fun τ => Wr ([(116, 116)], []) τ0 τ ∧ ∀ d : Nat, d < 96 → Bs (τ 116 d) (Gf σ n a (t + 1) d)) := by
  have t2 := hT.2.1
  refine Hp_up (fun j (z : Int × St) => z.1 = (j : Int) ∧ Wr ([(116, 116)], []) τ0 z.2 ∧ ∀ d : Nat, d < 96 → Bs (z.2 116 d) (Hf σ n a t 1 j d)) 0 (σ 1 5).toNat (by omega) (by omega) ⟨rfl, Wr_rf, h0⟩ ?_ ?_
  · rintro j ⟨x, τ⟩ - hj ⟨e1, e2, e3⟩
    simp only at e1 e2 e3
    subst e1
    have hnx : wr ((j : Int) + 1) = ((j + 1 : Nat) : Int) := by rw [wr_id' (by omega) (by omega)]; omega
    have f2 : τ 2 = σ 2 := by rw [← h2]; exact funext fun i => e2 2 i rfl
    have f3 : τ 3 = σ 3 := by rw [← h3]; exact funext fun i => e2 3 i rfl
    have f4 : τ 4 = σ 4 := by rw [← h4]; exact funext fun i => e2 4 i rfl
    have f5 : τ 1 5 = σ 1 5 := (e2 1 5 rfl).trans h5
    have f106 : ∀ i, τ (106 + a) i = τ0 (106 + a) i := by
      intro i
      have : ∀ a : Fin 8, inC [(116, 116)] (106 + a.val) = false := by decide
      exact e2 _ i (by unfold inR; rw [this ⟨a, ha⟩]; rfl)
    have f115 : ∀ i, τ 115 i = τ0 115 i := fun i => e2 115 i rfl
    obtain ⟨A, B, L, -, -, e4, -, -, -, -, -, -, l1, l2, -⟩ := town_way hT (w := j) (by omega)
    obtain ⟨e, g1, g2⟩ := arrival_sp (σ := σ) (τ := τ) (n := n) (l := σ 4 j) ha ht hT (by omega) f4 rfl (by rw [f106]; exact hN)
    simp only [m_X6_goForth_L78]
    rw [if_neg (by omega), g1, bnd_s]
    by_cases hc : 96 ≤ e
    · rw [if_pos hc, Hp_some, Lq_inl, hnx]
      refine ⟨rfl, e2, ?_⟩
      intro d hd
      refine Bs_cg (e3 d hd) ?_
      intro s
      unfold Hf
      constructor
      · rintro (q | ⟨q1, (q2 | ⟨w, q3, q4⟩)⟩)
        · exact Or.inl q
        · exact Or.inr ⟨q1, Or.inl q2⟩
        · exact Or.inr ⟨q1, Or.inr ⟨w, by omega, q4⟩⟩
      · rintro (q | ⟨q1, (q2 | ⟨w, q3, o, q4, q5, q6, q7⟩)⟩)
        · exact Or.inl q
        · exact Or.inr ⟨q1, Or.inl q2⟩
        · by_cases hwj : w = j
          · subst hwj
            rcases g2 with ⟨-, g3⟩ | ⟨g3, -⟩
            · omega
            · exact absurd q6 g3
          · exact Or.inr ⟨q1, Or.inr ⟨w, by omega, o, q4, q5, q6, q7⟩⟩
    · rw [if_neg hc]
      rcases g2 with ⟨g3, g4⟩ | ⟨-, g4⟩
      · obtain ⟨E, hE⟩ := Int.eq_ofNat_of_zero_le (show 0 ≤ e by omega)
        have hEt : E = t + (σ 4 j).toNat := by omega
        have ftt : Bs (τ 116 t) (Fth σ n a t) := by
          refine Bs_cg (e3 t ht) ?_
          intro s
          constructor
          · rintro (q | ⟨q1, (⟨-, q2, -⟩ | ⟨w, q3, o, q4, q5, -⟩)⟩)
            · exact (Gf_diag (Nat.le_refl t) s).mp q
            · omega
            · obtain ⟨A', B', L', -, -, e4', -, -, -, -, -, -, l1', -⟩ := town_way hT (w := w) (by omega)
              omega
          · intro q; exact Or.inl ((Gf_diag (Nat.le_refl t) s).mpr q)
        obtain ⟨v, v1, v2⟩ := across_sp hT f2 f3 (w := j) (by omega) ftt
        rw [hE, rd_ok (by omega) (by omega), bnd_s, rd_ok (by omega) (by omega), bnd_s]
        simp only [Int.toNat_natCast]
        rw [v1, bnd_s, rd_ok (by omega) (by omega), bnd_s, Hp_bind, Hp_wt]
        refine ⟨by omega, ?_⟩
        simp only [Int.toNat_natCast]
        rw [Hp_some, Lq_inl, hnx]
        refine ⟨rfl, Wr_up e2 rfl, ?_⟩
        intro d hd
        simp only
        by_cases hdE : d = E
        · subst hdE
          rw [up_eq, f115]
          refine Bs_cg (Bs_or (e3 d hd) (Bs_and v2 (hM d hd))) ?_
          intro s
          unfold Hf
          constructor
          · rintro ((q | ⟨q1, (q2 | ⟨w, q3, q4⟩)⟩) | ⟨⟨o, q2, q3⟩, q1⟩)
            · exact Or.inl q
            · exact Or.inr ⟨q1, Or.inl q2⟩
            · exact Or.inr ⟨q1, Or.inr ⟨w, by omega, q4⟩⟩
            · exact Or.inr ⟨q1, Or.inr ⟨j, by omega, o, q2, hEt, g3, q3⟩⟩
          · rintro (q | ⟨q1, (q2 | ⟨w, q3, o, q4, q5, q6, q7⟩)⟩)
            · exact Or.inl (Or.inl q)
            · exact Or.inl (Or.inr ⟨q1, Or.inl q2⟩)
            · by_cases hwj : w = j
              · subst hwj
                exact Or.inr ⟨⟨o, q4, q7⟩, q1⟩
              · exact Or.inl (Or.inr ⟨q1, Or.inr ⟨w, by omega, o, q4, q5, q6, q7⟩⟩)
        · rw [up_slot hdE]
          refine Bs_cg (e3 d hd) ?_
          intro s
          unfold Hf
          constructor
          · rintro (q | ⟨q1, (q2 | ⟨w, q3, q4⟩)⟩)
            · exact Or.inl q
            · exact Or.inr ⟨q1, Or.inl q2⟩
            · exact Or.inr ⟨q1, Or.inr ⟨w, by omega, q4⟩⟩
          · rintro (q | ⟨q1, (q2 | ⟨w, q3, o, q4, q5, q6, q7⟩)⟩)
            · exact Or.inl q
            · exact Or.inr ⟨q1, Or.inl q2⟩
            · by_cases hwj : w = j
              · subst hwj; omega
              · exact Or.inr ⟨q1, Or.inr ⟨w, by omega, o, q4, q5, q6, q7⟩⟩
      · omega
  · rintro ⟨x, τ⟩ ⟨e1, e2, e3⟩
    simp only at e1 e2 e3
    subst e1
    have f5 : τ 1 5 = σ 1 5 := (e2 1 5 rfl).trans h5
    simp only [m_X6_goForth_L78]
    rw [if_pos (by omega), Hp_some, Lq_inr]
    refine ⟨e2, fun d hd => Bs_cg (e3 d hd) (fun s => Hf_end hT (by omega) d s)⟩
theorem forth_sp {σ τ0 : St} {n : Int} {a : Nat} (hT : iTown σ) (ha : a < 8) (h2 : τ0 2 = σ 2) (h3 : τ0 3 = σ 3) (h4 : τ0 4 = σ 4) (h5 : τ0 1 5 = σ 1 5) (hN : ∀ t : Nat, t < 96 → NxF σ n a (t + 1) (τ0 (106 + a) t)) (hM : ∀ d : Nat, d < 96 → Bs (τ0 115 d) (May σ n a d)) :
    Hp (m_X6_goForth a τ0) (fun τ => Wr ([(116, 116)], []) τ0 τ ∧ ∀ d : Nat, d < 96 → Bs (τ 116 d) (Fth σ n a d)) := by
  have hA : Hp (lp (fun z => m_X6_goForth_L2 z.1 z.2) (0, τ0)) (fun τ => Wr ([(116, 116)], []) τ0 τ ∧ ∀ d : Nat, d < 96 → Bs (τ 116 d) (Gf σ n a 0 d)) := by
    refine Hp_up (fun j (z : Int × St) => z.1 = (j : Int) ∧ Wr ([(116, 116)], []) τ0 z.2 ∧ ∀ d : Nat, d < j → Bs (z.2 116 d) (Gf σ n a 0 d)) 0 96 (by omega) (by omega) ⟨rfl, Wr_rf, fun d hd => by omega⟩ ?_ ?_
    · rintro j ⟨x, τ⟩ - hj ⟨e1, e2, e3⟩
      simp only at e1 e2 e3
      subst e1
      have hnx : wr ((j : Int) + 1) = ((j + 1 : Nat) : Int) := by rw [wr_id' (by omega) (by omega)]; omega
      simp only [m_X6_goForth_L2]
      rw [if_neg (by omega)]
      by_cases hz : (j : Int) = 0
      · rw [if_pos hz, rd_ok (by omega) (by omega), bnd_s, Hp_bind, Hp_wt]
        refine ⟨by omega, ?_⟩
        rw [Hp_some, Lq_inl, hnx, Int.toNat_natCast]
        have hj0 : j = 0 := by omega
        subst hj0
        refine ⟨rfl, Wr_up e2 rfl, ?_⟩
        intro d hd
        have : d = 0 := by omega
        subst this
        simp only
        rw [up_eq, show (0 : Int).toNat = 0 from rfl, e2 115 0 rfl]
        refine Bs_cg (hM 0 (by omega)) ?_
        intro s
        exact ⟨fun q => ⟨q, Or.inl rfl⟩, fun q => q.1⟩
      · rw [if_neg hz, Hp_bind, Hp_wt]
        refine ⟨by omega, ?_⟩
        rw [Hp_some, Lq_inl, hnx, Int.toNat_natCast]
        refine ⟨rfl, Wr_up e2 rfl, ?_⟩
        intro d hd
        simp only
        by_cases hdj : d = j
        · subst hdj
          rw [up_eq]
          refine Bs_cg Bs_zero ?_
          intro s
          constructor
          · intro q; exact absurd q id
          · rintro ⟨-, (q | ⟨q1, q2, -⟩ | ⟨o, l, ⟨q1, q2, q3⟩, -⟩)⟩ <;> omega
        · rw [up_slot hdj]; exact e3 d (by omega)
    · rintro ⟨x, τ⟩ ⟨e1, e2, e3⟩
      simp only at e1 e2 e3
      subst e1
      simp only [m_X6_goForth_L2]
      rw [if_pos (by omega), Hp_some, Lq_inr]
      exact ⟨e2, e3⟩
  obtain ⟨τ1, o1, w1, z1⟩ := hA
  rw [m_X6_goForth, o1, bnd_s, Hp_bind]
  simp only [Hp_some]
  refine Hp_up (fun j (z : Int × St) => z.1 = (j : Int) ∧ Wr ([(116, 116)], []) τ0 z.2 ∧ ∀ d : Nat, d < 96 → Bs (z.2 116 d) (Gf σ n a j d)) 0 96 (by omega) (by omega) ⟨rfl, w1, z1⟩ ?_ ?_
  · rintro j ⟨x, τ⟩ - hj ⟨e1, e2, e3⟩
    simp only at e1 e2 e3
    subst e1
    have hnx : wr ((j : Int) + 1) = ((j + 1 : Nat) : Int) := by rw [wr_id' (by omega) (by omega)]; omega
    have inc : ∀ a : Fin 8, inC [(116, 116)] (106 + a.val) = false := by decide
    have go : ∀ τ' : St, Wr ([(116, 116)], []) τ0 τ' → (∀ d : Nat, d < 96 → Bs (τ' 116 d) (Hf σ n a j 1 0 d)) → Hp (m_X6_goForth_J76 a j τ') (Lq (fun τ => Wr ([(116, 116)], []) τ0 τ ∧ ∀ d : Nat, d < 96 → Bs (τ 116 d) (Fth σ n a d)) (fun z => z.1 = ((j + 1 : Nat) : Int) ∧ Wr ([(116, 116)], []) τ0 z.2 ∧ ∀ d : Nat, d < 96 → Bs (z.2 116 d) (Gf σ n a (j + 1) d))) := by
      intro τ' hw hH
      rw [m_X6_goForth_J76, Hp_bind]
      refine Hp_mono (forth_w (σ := σ) (n := n) hT ha hj ?_ ?_ ?_ ?_ ?_ ?_ hH) ?_
      · rw [← h2]; exact funext fun i => hw 2 i rfl
      · rw [← h3]; exact funext fun i => hw 3 i rfl
      · rw [← h4]; exact funext fun i => hw 4 i rfl
      · rw [← h5]; exact hw 1 5 rfl
      · rw [hw (106 + a) j (by unfold inR; rw [inc ⟨a, ha⟩]; rfl)]; exact hN j hj
      · intro d hd; rw [hw 115 d rfl]; exact hM d hd
      · rintro τ2 ⟨w2, z2⟩
        rw [Hp_some, Lq_inl, hnx]
        exact ⟨rfl, Wr_tr hw w2, z2⟩
    have ftt : Bs (τ 116 j) (Fth σ n a j) := Bs_cg (e3 j hj) (fun s => Gf_diag (Nat.le_refl j) s)
    simp only [m_X6_goForth_L36]
    rw [if_neg (by omega), hnx]
    by_cases hc : (96 : Int) ≤ ((j + 1 : Nat) : Int)
    · rw [if_pos hc]
      refine go τ e2 ?_
      intro d hd
      refine Bs_cg (e3 d hd) ?_
      intro s
      unfold Hf
      constructor
      · intro q; exact Or.inl q
      · rintro (q | ⟨q1, (⟨-, q2, -⟩ | ⟨w, q3, -⟩)⟩)
        · exact q
        · omega
        · omega
    · rw [if_neg hc, rd_ok (by omega) (by omega), bnd_s, rd_ok (by omega) (by omega), bnd_s, rd_ok (by omega) (by omega), bnd_s, Hp_bind, Hp_wt]
      refine ⟨by omega, ?_⟩
      simp only [Int.toNat_natCast]
      refine go _ (Wr_up e2 rfl) ?_
      intro d hd
      by_cases hdj : d = j + 1
      · subst hdj
        rw [up_eq, e2 115 (j + 1) rfl]
        refine Bs_cg (Bs_or (e3 (j + 1) hd) (Bs_and ftt (hM (j + 1) hd))) ?_
        intro s
        unfold Hf
        constructor
        · rintro (q | ⟨q2, q1⟩)
          · exact Or.inl q
          · exact Or.inr ⟨q1, Or.inl ⟨rfl, rfl, q2⟩⟩
        · rintro (q | ⟨q1, (⟨-, -, q2⟩ | ⟨w, q3, -⟩)⟩)
          · exact Or.inl q
          · exact Or.inr ⟨q2, q1⟩
          · omega
      · rw [up_slot hdj]
        refine Bs_cg (e3 d hd) ?_
        intro s
        unfold Hf
        constructor
        · intro q; exact Or.inl q
        · rintro (q | ⟨q1, (⟨-, q2, -⟩ | ⟨w, q3, -⟩)⟩)
          · exact q
          · omega
          · omega
  · rintro ⟨x, τ⟩ ⟨e1, e2, e3⟩
    simp only at e1 e2 e3
    subst e1
    simp only [m_X6_goForth_L36]
    rw [if_pos (by omega), Hp_some, Lq_inr]
    exact ⟨e2, fun d hd => Bs_cg (e3 d hd) (fun s => Gf_diag (by omega) s)⟩
