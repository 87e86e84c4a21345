/-! backwards, and the rows whole -/
def Bw (σ : St) (n : Int) (a t j s : Nat) : Prop := ∃ w : Nat, w < j ∧ ∃ o, WAt σ w s o ∧ Unsn σ n a t (σ 4 w).toNat ∧ (96 ≤ t + (σ 4 w).toNat ∨ (t + (σ 4 w).toNat < 96 ∧ Bck σ n a (95 - (t + (σ 4 w).toNat)) o))
theorem bck_iff {σ : St} {n : Int} {a t : Nat} (hT : iTown σ) (ht : t < 96) {j : Nat} (hj : (j : Int) = σ 1 5) (s : Nat) : Bck σ n a (95 - t) s ↔ May σ n a t s ∧ ((t + 1 < 96 ∧ Bck σ n a (95 - (t + 1)) s) ∨ (t = 95 ∧ (s : Int) < σ 1 4) ∨ Bw σ n a t j s) := by
  have t1 := hT.1
  by_cases h95 : t = 95
  · subst h95
    rw [show 95 - 95 = 0 from rfl, Bck]
    constructor
    · intro q
      refine ⟨q, Or.inr (Or.inl ⟨rfl, ?_⟩)⟩
      have := q.1
      omega
    · intro q; exact q.1
  · obtain ⟨u, hu⟩ : ∃ u, 95 - t = u + 1 := ⟨95 - t - 1, by omega⟩
    rw [hu, Bck, show 95 - (u + 1) = t by omega, show 95 - (t + 1) = u by omega]
    constructor
    · rintro ⟨q1, (q2 | ⟨o, l, q3, q4, q5, q6⟩)⟩
      · exact ⟨q1, Or.inl ⟨by omega, q2⟩⟩
      · rw [way_iff hT] at q4
        obtain ⟨w, w1, w2, w3⟩ := q4
        have e : (σ 4 w).toNat = l := by omega
        refine ⟨q1, Or.inr (Or.inr ⟨w, by omega, o, w2, by rw [e]; exact q5, ?_⟩)⟩
        rw [e]
        rcases q6 with q6 | ⟨q6, q7⟩
        · exact Or.inl (by omega)
        · exact Or.inr ⟨by omega, by rw [show 95 - (t + l) = u + 1 - l by omega]; exact q7⟩
    · rintro ⟨q1, (⟨-, q2⟩ | ⟨q2, -⟩ | ⟨w, w1, o, w2, w3, w4⟩)⟩
      · exact ⟨q1, Or.inl q2⟩
      · omega
      · obtain ⟨A, B, L, -, -, e4, -, -, -, -, -, -, l1, l2, -⟩ := town_way hT (w := w) (by omega)
        refine ⟨q1, Or.inr ⟨o, (σ 4 w).toNat, by omega, ?_, w3, ?_⟩⟩
        · rw [way_iff hT]; exact ⟨w, by omega, w2, by omega⟩
        · rcases w4 with q | ⟨q, q'⟩
          · exact Or.inl (by omega)
          · exact Or.inr ⟨by omega, by rw [show u + 1 - (σ 4 w).toNat = 95 - (t + (σ 4 w).toNat) by omega]; exact q'⟩
theorem back_w {σ τ : St} {n : Int} {a t : Nat} {on0 : Int} {P : Nat → Prop} (hT : iTown σ) (ha : a < 8) (ht : t < 96) (h2 : τ 2 = σ 2) (h3 : τ 3 = σ 3) (h4 : τ 4 = σ 4) (h5 : τ 1 5 = σ 1 5) (h14 : τ 1 4 = σ 1 4) (hN : NxF σ n a (t + 1) (τ (106 + a) t)) (hb : ∀ d : Nat, t < d → d < 96 → Bs (τ 117 d) (Bck σ n a (95 - d))) (h0 : Bs on0 P) :
    Hp (lp (fun z => m_X6_goBack_L37 τ a t z.1 z.2) (on0, 0)) (fun v => Bs v (fun s => P s ∨ Bw σ n a t (σ 1 5).toNat s)) := by
  have t1 := hT.1
  have t2 := hT.2.1
  obtain ⟨S, hS⟩ := Int.eq_ofNat_of_zero_le t1.2.1
  refine Hp_up (fun j (z : Int × Int) => z.2 = (j : Int) ∧ Bs z.1 (fun s => P s ∨ Bw σ n a t j s)) 0 (σ 1 5).toNat (by omega) (by omega) ⟨rfl, Bs_cg h0 (fun s => ⟨Or.inl, fun q => q.elim id (fun ⟨w, h, _⟩ => by omega)⟩)⟩ ?_ ?_
  · rintro j ⟨v, x⟩ - hj ⟨e1, e3⟩
    simp only at e1 e3
    subst e1
    have hnx : wr ((j : Int) + 1) = ((j + 1 : Nat) : Int) := by rw [wr_id' (by omega) (by omega)]; omega
    obtain ⟨A, B, L, e2, e3', e4, -, -, -, -, -, -, l1, l2, g1, g2⟩ := town_way hT (w := j) (by omega)
    obtain ⟨e, a1, a2⟩ := arrival_sp (σ := σ) (τ := τ) (n := n) (l := σ 4 j) ha ht hT (by omega) h4 rfl hN
    have hbw : ∀ s, Bw σ n a t (j + 1) s ↔ (Bw σ n a t j s ∨ ∃ o, WAt σ j s o ∧ Unsn σ n a t (σ 4 j).toNat ∧ (96 ≤ t + (σ 4 j).toNat ∨ (t + (σ 4 j).toNat < 96 ∧ Bck σ n a (95 - (t + (σ 4 j).toNat)) o))) := by
      intro s
      constructor
      · rintro ⟨w, w1, w2⟩
        by_cases hwj : w = j
        · subst hwj; exact Or.inr w2
        · exact Or.inl ⟨w, by omega, w2⟩
      · rintro (⟨w, w1, w2⟩ | q)
        · exact ⟨w, by omega, w2⟩
        · exact ⟨j, by omega, q⟩
    simp only [m_X6_goBack_L37]
    rw [if_neg (by omega), a1, bnd_s]
    rcases a2 with ⟨u1, u2⟩ | ⟨u1, u2⟩
    · by_cases hc : 96 ≤ e
      · rw [if_pos hc, if_neg (by omega), all_eq, bnd_s, h14, hS]
        obtain ⟨y, y1, y2⟩ := across_sp (w := j) hT h2 h3 (by omega) (Bs_all (n := S) (by omega))
        rw [y1, bnd_s]
        simp only [vl, bnd_s]
        rw [Hp_some, Lq_inl, hnx]
        refine ⟨rfl, Bs_cg (Bs_or e3 y2) ?_⟩
        intro s
        rw [hbw s]
        constructor
        · rintro ((q | q) | ⟨o, q1, q2⟩)
          · exact Or.inl q
          · exact Or.inr (Or.inl q)
          · exact Or.inr (Or.inr ⟨o, q1, u1, Or.inl (by omega)⟩)
        · rintro (q | q | ⟨o, q1, q2, q3⟩)
          · exact Or.inl (Or.inl q)
          · exact Or.inl (Or.inr q)
          · refine Or.inr ⟨o, q1, ?_⟩
            rcases q1 with ⟨r1, r2⟩ | ⟨r1, r2⟩ <;> omega
      · rw [if_neg hc]
        obtain ⟨E, hE⟩ := Int.eq_ofNat_of_zero_le (show 0 ≤ e by omega)
        have hEt : E = t + (σ 4 j).toNat := by omega
        obtain ⟨y, y1, y2⟩ := across_sp (w := j) hT h2 h3 (by omega) (hb E (by omega) (by omega))
        rw [hE, rd_ok (by omega) (by omega), bnd_s, Int.toNat_natCast, y1, bnd_s]
        simp only [vl, bnd_s]
        rw [Hp_some, Lq_inl, hnx]
        refine ⟨rfl, Bs_cg (Bs_or e3 y2) ?_⟩
        intro s
        rw [hbw s, ← hEt]
        constructor
        · rintro ((q | q) | ⟨o, q1, q2⟩)
          · exact Or.inl q
          · exact Or.inr (Or.inl q)
          · exact Or.inr (Or.inr ⟨o, q1, u1, Or.inr ⟨by omega, q2⟩⟩)
        · rintro (q | q | ⟨o, q1, q2, (q3 | ⟨-, q3⟩)⟩)
          · exact Or.inl (Or.inl q)
          · exact Or.inl (Or.inr q)
          · omega
          · exact Or.inr ⟨o, q1, q3⟩
    · rw [u2, if_pos (by decide), if_pos rfl, Hp_some, Lq_inl, hnx]
      refine ⟨rfl, Bs_cg e3 ?_⟩
      intro s
      rw [hbw s]
      constructor
      · rintro (q | q)
        · exact Or.inl q
        · exact Or.inr (Or.inl q)
      · rintro (q | q | ⟨o, q1, q2, q3⟩)
        · exact Or.inl q
        · exact Or.inr q
        · exact absurd q2 u1
  · rintro ⟨v, x⟩ ⟨e1, e3⟩
    simp only at e1 e3
    subst e1
    simp only [m_X6_goBack_L37]
    rw [if_pos (by omega), Hp_some, Lq_inr]
    exact e3
theorem back_sp {σ τ0 : St} {n : Int} {a : Nat} (hT : iTown σ) (ha : a < 8) (h2 : τ0 2 = σ 2) (h3 : τ0 3 = σ 3) (h4 : τ0 4 = σ 4) (h5 : τ0 1 5 = σ 1 5) (h14 : τ0 1 4 = σ 1 4) (hN : ∀ t : Nat, t < 96 → NxF σ n a (t + 1) (τ0 (106 + a) t)) (hM : ∀ d : Nat, d < 96 → Bs (τ0 115 d) (May σ n a d)) :
    Hp (m_X6_goBack a τ0) (fun τ => Wr ([(117, 117)], []) τ0 τ ∧ ∀ d : Nat, d < 96 → Bs (τ 117 d) (Bck σ n a (95 - d))) := by
  have t1 := hT.1
  obtain ⟨S, hS⟩ := Int.eq_ofNat_of_zero_le t1.2.1
  have inc : ∀ a : Fin 8, inC [(117, 117)] (106 + a.val) = false := by decide
  rw [m_X6_goBack, Hp_bind]
  simp only [Hp_some]
  refine Hp_dn (fun j (z : Int × St) => z.1 = (j : Int) - 1 ∧ Wr ([(117, 117)], []) τ0 z.2 ∧ ∀ d : Nat, j ≤ d → d < 96 → Bs (z.2 117 d) (Bck σ n a (95 - d))) 96 (by omega) ⟨rfl, Wr_rf, fun d h1 h2 => by omega⟩ ?_ ?_
  · rintro j ⟨x, τ⟩ hj ⟨e1, e2, e3⟩
    simp only at e1 e2 e3
    have hx : x = (j : Int) := by omega
    subst hx
    have hnx : wr ((j : Int) + (-1)) = (j : Int) - 1 := by rw [wr_id' (by omega) (by omega)]; omega
    have hnx1 : wr ((j : Int) + 1) = ((j + 1 : Nat) : Int) := by rw [wr_id' (by omega) (by omega)]; omega
    have go : ∀ (on0 : Int) (P : Nat → Prop), Bs on0 P → (∀ s, May σ n a j s → (P s ↔ ((j + 1 < 96 ∧ Bck σ n a (95 - (j + 1)) s) ∨ (j = 95 ∧ (s : Int) < σ 1 4)))) → Hp (m_X6_goBack_J33 τ a j on0) (Lq (fun τ => Wr ([(117, 117)], []) τ0 τ ∧ ∀ d : Nat, d < 96 → Bs (τ 117 d) (Bck σ n a (95 - d))) (fun z => z.1 = (j : Int) - 1 ∧ Wr ([(117, 117)], []) τ0 z.2 ∧ ∀ d : Nat, j ≤ d → d < 96 → Bs (z.2 117 d) (Bck σ n a (95 - d)))) := by
      intro on0 P h0 hP
      rw [m_X6_goBack_J33, Hp_bind]
      refine Hp_mono (back_w (σ := σ) (n := n) (P := P) hT ha hj ?_ ?_ ?_ ?_ ?_ ?_ (fun d h1 h2 => e3 d (by omega) h2) h0) ?_
      · rw [← h2]; exact funext fun i => e2 2 i rfl
      · rw [← h3]; exact funext fun i => e2 3 i rfl
      · rw [← h4]; exact funext fun i => e2 4 i rfl
      · rw [← h5]; exact e2 1 5 rfl
      · rw [← h14]; exact e2 1 4 rfl
      · rw [e2 (106 + a) j (by unfold inR; rw [inc ⟨a, ha⟩]; rfl)]; exact hN j hj
      · intro v hv
        rw [rd_ok (by omega) (by omega), bnd_s, Hp_bind, Hp_wt]
        refine ⟨by omega, ?_⟩
        simp only [Int.toNat_natCast]
        rw [Hp_some, Lq_inl, hnx]
        refine ⟨rfl, Wr_up e2 rfl, ?_⟩
        intro d h1 h2
        simp only
        by_cases hdj : d = j
        · subst hdj
          rw [up_eq, e2 115 d rfl]
          refine Bs_cg (Bs_and hv (hM d hj)) ?_
          intro s
          rw [bck_iff hT hj (j := (σ 1 5).toNat) (by have := hT.2.1; omega)]
          constructor
          · rintro ⟨(q1 | q1), q2⟩
            · rcases (hP s q2).mp q1 with q | q
              · exact ⟨q2, Or.inl q⟩
              · exact ⟨q2, Or.inr (Or.inl q)⟩
            · exact ⟨q2, Or.inr (Or.inr q1)⟩
          · rintro ⟨q2, (q | q | q)⟩
            · exact ⟨Or.inl ((hP s q2).mpr (Or.inl q)), q2⟩
            · exact ⟨Or.inl ((hP s q2).mpr (Or.inr q)), q2⟩
            · exact ⟨Or.inr q, q2⟩
        · rw [up_slot hdj]; exact e3 d (by omega) h2
    simp only [m_X6_goBack_L3]
    rw [if_neg (by omega), hnx1]
    by_cases hc : (96 : Int) ≤ ((j + 1 : Nat) : Int)
    · rw [if_pos hc, all_eq, bnd_s, e2 1 4 rfl, h14, hS]
      refine go _ _ (Bs_all (n := S) (by omega)) ?_
      intro s _
      constructor
      · intro q; exact Or.inr ⟨by omega, by omega⟩
      · rintro (⟨q, -⟩ | ⟨-, q⟩) <;> omega
    · rw [if_neg hc, rd_ok (by omega) (by omega), bnd_s]
      simp only [Int.toNat_natCast]
      refine go _ _ (e3 (j + 1) (by omega) (by omega)) ?_
      intro s _
      constructor
      · intro q; exact Or.inl ⟨by omega, q⟩
      · rintro (⟨-, q⟩ | ⟨q, -⟩)
        · exact q
        · omega
  · rintro ⟨x, τ⟩ ⟨e1, e2, e3⟩
    simp only at e1 e2 e3
    simp only [m_X6_goBack_L3]
    rw [if_pos (by omega), Hp_some, Lq_inr]
    exact ⟨e2, fun d hd => e3 d (by omega) hd⟩
/-- the rows of agent a stand -/
def RowC (σ : St) (n : Int) (a : Nat) (τ : St) : Prop := ∀ t : Nat, t < 96 → NxF σ n a (t + 1) (τ (106 + a) t) ∧ Bs (τ (97 + a) t) (Can σ n a t)
theorem reckon_sp {σ τ : St} {n : Int} {a : Nat} (hB : iBook σ) (hT : iTown σ) (hn : 0 ≤ n ∧ n ≤ σ 30 5) (ha : a < 8) (h : KN σ τ n) : Hp (m_X6_reckon a τ) (fun τ' => Wr ([(97, 104), (106, 117), (154, 154), (156, 163)], []) τ τ' ∧ RowC σ n a τ' ∧ ∀ b : Nat, b < 8 → b ≠ a → τ' (97 + b) = τ (97 + b) ∧ τ' (106 + b) = τ (106 + b)) := by
  have t1 := hT.1
  have rA : ∀ a : Fin 8, inC [(97, 104), (106, 117), (154, 154), (156, 163)] (106 + a.val) = true ∧ inC [(97, 104), (106, 117), (154, 154), (156, 163)] (97 + a.val) = true := by decide
  have wA : ∀ {τ1 τ2 : St}, Wr ([(106 + a, 106 + a), (115, 115)], []) τ1 τ2 → Wr ([(97, 104), (106, 117), (154, 154), (156, 163)], []) τ1 τ2 := by
    intro τ1 τ2 hw k j hk
    apply hw
    simp only [inR, inC, inS, List.any_cons, List.any_nil, Bool.or_false, Bool.or_eq_false_iff, Bool.and_eq_false_iff] at hk ⊢
    simp only [Bool.eq_false_iff, ne_eq, Nat.ble_eq] at hk ⊢
    omega
  obtain ⟨τ1, o1, w1, z1⟩ := note_sp (a := a) hB (by omega) hn h
  have K1 := KN_step h (Wr_sb w1 rfl)
  obtain ⟨τ2, o2, w2, z2⟩ := reck_a hB hT hn ha K1 z1
  have K2 := KN_step K1 (wA w2)
  have c2 : τ2 2 = σ 2 := funext fun i => K2.1 2 i rfl
  have c3 : τ2 3 = σ 3 := funext fun i => K2.1 3 i rfl
  have c4 : τ2 4 = σ 4 := funext fun i => K2.1 4 i rfl
  obtain ⟨τ3, o3, w3, z3⟩ := forth_sp (σ := σ) (n := n) (a := a) hT ha c2 c3 c4 (K2.1 1 5 rfl) (fun t ht => (z2 t ht).1) (fun d hd => (z2 d hd).2)
  have K3 := KN_step K2 (Wr_sb w3 rfl)
  have d2 : τ3 2 = σ 2 := funext fun i => K3.1 2 i rfl
  have d3 : τ3 3 = σ 3 := funext fun i => K3.1 3 i rfl
  have d4 : τ3 4 = σ 4 := funext fun i => K3.1 4 i rfl
  have n116 : ∀ a : Fin 8, inC [(116, 116)] (106 + a.val) = false ∧ inC [(117, 117)] (106 + a.val) = false ∧ inC [(116, 116)] (97 + a.val) = false ∧ inC [(117, 117)] (97 + a.val) = false ∧ inC [(114, 114)] (97 + a.val) = false ∧ inC [(114, 114)] (106 + a.val) = false := by decide
  have g3 : ∀ b i, b < 8 → τ3 (106 + b) i = τ2 (106 + b) i := fun b i hb => w3 _ i (by unfold inR; rw [(n116 ⟨b, hb⟩).1]; rfl)
  obtain ⟨τ4, o4, w4, z4⟩ := back_sp (σ := σ) (n := n) (a := a) hT ha d2 d3 d4 (K3.1 1 5 rfl) (K3.1 1 4 rfl) (fun t ht => by rw [g3 a t ha]; exact (z2 t ht).1) (fun d hd => by rw [w3 115 d rfl]; exact (z2 d hd).2)
  have g4 : ∀ b i, b < 8 → τ4 (106 + b) i = τ3 (106 + b) i := fun b i hb => w4 _ i (by unfold inR; rw [(n116 ⟨b, hb⟩).2.1]; rfl)
  have hin : ∀ j : Nat, inR ([(97 + a, 97 + a)], []) (97 + a) j = true := by intro j; simp [inR, inC]
  have hout : ∀ k j : Nat, k ≠ 97 + a → inR ([(97 + a, 97 + a)], []) k j = false := by
    intro k j h1
    simp only [inR, inC, inS, List.any_cons, List.any_nil, Bool.or_false, Bool.and_eq_false_iff]
    simp only [Bool.eq_false_iff, ne_eq, Nat.ble_eq]
    omega
  have hL : Hp (lp (fun z => m_X6_reckon_L106 a z.1 z.2) (0, τ4)) (fun τ' => Wr ([(97 + a, 97 + a)], []) τ4 τ' ∧ ∀ d : Nat, d < 96 → Bs (τ' (97 + a) d) (Can σ n a d)) := by
    refine Hp_up (fun j (z : Int × St) => z.1 = (j : Int) ∧ Wr ([(97 + a, 97 + a)], []) τ4 z.2 ∧ ∀ d : Nat, d < j → Bs (z.2 (97 + a) d) (Can σ n a d)) 0 96 (by omega) (by omega) ⟨rfl, Wr_rf, fun d hd => by omega⟩ ?_ ?_
    · rintro j ⟨x, ρ⟩ - hj ⟨e1, e2, e3⟩
      simp only at e1 e2 e3
      subst e1
      have hnx : wr ((j : Int) + 1) = ((j + 1 : Nat) : Int) := by rw [wr_id' (by omega) (by omega)]; omega
      simp only [m_X6_reckon_L106]
      rw [if_neg (by omega), rr_ok (by omega) (by omega), bnd_s, rd_ok (by omega) (by omega), bnd_s, rd_ok (by omega) (by omega), bnd_s, Hp_bind, Hp_wt]
      refine ⟨by omega, ?_⟩
      simp only [Int.toNat_natCast, rf_can ha]
      rw [Hp_some, Lq_inl, hnx]
      refine ⟨rfl, Wr_up e2 (hin _), ?_⟩
      intro d hd
      simp only
      by_cases hdj : d = j
      · subst hdj
        rw [up_eq, e2 116 d (hout 116 d (by omega)), e2 117 d (hout 117 d (by omega)), w4 116 d rfl]
        exact Bs_and (z3 d hj) (z4 d hj)
      · rw [up_slot hdj]; exact e3 d (by omega)
    · rintro ⟨x, ρ⟩ ⟨e1, e2, e3⟩
      simp only at e1 e2 e3
      subst e1
      simp only [m_X6_reckon_L106]
      rw [if_pos (by omega), Hp_some, Lq_inr]
      exact ⟨e2, e3⟩
  obtain ⟨τ5, o5, w5, z5⟩ := hL
  have e : m_X6_reckon a τ = some τ5 := by
    rw [m_X6_reckon, if_neg (by omega), if_pos (by omega), o1, bnd_s, o2, bnd_s, o3, bnd_s, o4, bnd_s, o5, bnd_s]
  have w5' : Wr ([(97, 104), (106, 117), (154, 154), (156, 163)], []) τ4 τ5 := by
    intro k j hk
    apply w5
    apply hout
    rintro rfl
    have := (rA ⟨a, ha⟩).2
    unfold inR at hk
    rw [this] at hk
    exact absurd hk (by simp)
  refine ⟨τ5, e, Wr_tr (Wr_sb w1 rfl) (Wr_tr (wA w2) (Wr_tr (Wr_sb w3 rfl) (Wr_tr (Wr_sb w4 rfl) w5'))), ?_, ?_⟩
  · intro t ht
    refine ⟨?_, z5 t ht⟩
    rw [w5 (106 + a) t (hout _ t (by omega)), g4 a t ha, g3 a t ha]
    exact (z2 t ht).1
  · intro b hb hba
    obtain ⟨p1, p2, p3, p4, p5, p6⟩ := n116 ⟨b, hb⟩
    refine ⟨funext fun i => ?_, funext fun i => ?_⟩
    · rw [w5 (97 + b) i (hout _ i (by omega)), w4 (97 + b) i (by unfold inR; rw [p4]; rfl), w3 (97 + b) i (by unfold inR; rw [p3]; rfl), w2 (97 + b) i ?_, w1 (97 + b) i (by unfold inR; rw [p5]; rfl)]
      simp only [inR, inC, inS, List.any_cons, List.any_nil, Bool.or_false, Bool.or_eq_false_iff, Bool.and_eq_false_iff]
      simp only [Bool.eq_false_iff, ne_eq, Nat.ble_eq]
      omega
    · rw [w5 (106 + b) i (hout _ i (by omega)), g4 b i hb, g3 b i hb, w2 (106 + b) i ?_, w1 (106 + b) i (by unfold inR; rw [p6]; rfl)]
      simp only [inR, inC, inS, List.any_cons, List.any_nil, Bool.or_false, Bool.or_eq_false_iff, Bool.and_eq_false_iff]
      simp only [Bool.eq_false_iff, ne_eq, Nat.ble_eq]
      omega
/-- the rows of all agents -/
theorem rows_sp {σ : St} {n : Int} (hB : iBook σ) (hT : iTown σ) (hn : 0 ≤ n ∧ n ≤ σ 30 5) (h06 : 0 ≤ σ 0 6 ∧ σ 0 6 ≤ 8) : Hp (m_X11_reckonRows n σ) (fun τ => KN σ τ n ∧ ∀ a : Nat, (a : Int) < σ 0 6 → RowC σ n a τ) := by
  have t1 := hT.1
  obtain ⟨τ1, o1, l1⟩ := look_sp hB (by omega) hn
  rw [m_X11_reckonRows, o1, bnd_s, Hp_bind]
  simp only [Hp_some]
  refine Hp_up (fun j (z : Int × St) => z.1 = (j : Int) ∧ KN σ z.2 n ∧ ∀ a : Nat, a < j → RowC σ n a z.2) 0 (σ 0 6).toNat (by omega) (by omega) ⟨rfl, KN_look l1, fun a ha => by omega⟩ ?_ ?_
  · rintro j ⟨x, τ⟩ - hj ⟨e1, e2, e3⟩
    simp only at e1 e2 e3
    subst e1
    have hnx : wr ((j : Int) + 1) = ((j + 1 : Nat) : Int) := by rw [wr_id' (by omega) (by omega)]; omega
    have f06 : τ 0 6 = σ 0 6 := e2.1 0 6 rfl
    simp only [m_X11_reckonRows_L10]
    rw [if_neg (by omega), Hp_bind]
    refine Hp_mono (reckon_sp hB hT hn (by omega) e2) ?_
    rintro τ' ⟨w, r1, r2⟩
    rw [Hp_some, Lq_inl, hnx]
    refine ⟨rfl, KN_step e2 w, ?_⟩
    intro b hb
    by_cases hbj : b = j
    · subst hbj; exact r1
    · obtain ⟨q1, q2⟩ := r2 b (by omega) hbj
      intro t ht
      simp only
      rw [q1, q2]
      exact e3 b (by omega) t ht
  · rintro ⟨x, τ⟩ ⟨e1, e2, e3⟩
    simp only at e1 e2 e3
    subst e1
    have f06 : τ 0 6 = σ 0 6 := e2.1 0 6 rfl
    simp only [m_X11_reckonRows_L10]
    rw [if_pos (by omega), Hp_some, Lq_inr]
    exact ⟨e2, fun a ha => e3 a (by omega)⟩
