/-! the model's rows: forth and back -/
def Lk (σ τ : St) : Prop := ∀ c j : Nat, c = 187 ∨ c = 188 ∨ c = 189 ∨ (c = 170 ∧ (j = 30 ∨ j = 31)) → τ c j = σ c j
theorem isBetw_sp {σ τ : St} (hT : iTown σ) (hL : Lk σ τ) {w s o : Nat} (hw : (w : Int) < σ 1 5) : ∃ b, m_X12_isBetween w s o τ = some b ∧ Bb b (WAt σ w s o) := by
  have t2 := hT.2.1
  obtain ⟨A, B, L, e2, e3, e4, e187, e188, e189, -⟩ := town_way hT hw
  have f1 : τ 187 w = A := (hL 187 w (by omega)).trans e187
  have f2 : τ 188 w = B := (hL 188 w (by omega)).trans e188
  have hJ : ∃ b, m_X12_isBetween_J20 τ w o s = some b ∧ Bb b (σ 2 w = o ∧ σ 3 w = s) := by
    rw [m_X12_isBetween_J20, rd_ok (by omega) (by omega), bnd_s, Int.toNat_natCast, f1]
    by_cases h1 : (A : Int) = o
    · rw [if_pos h1, rd_ok (by omega) (by omega), bnd_s, Int.toNat_natCast, f2]
      by_cases h2 : (B : Int) = s
      · rw [if_pos h2]; exact ⟨1, rfl, Bb_1 ⟨by omega, by omega⟩⟩
      · rw [if_neg h2]; exact ⟨0, rfl, Bb_0 (fun q => by omega)⟩
    · rw [if_neg h1]; exact ⟨0, rfl, Bb_0 (fun q => by omega)⟩
  obtain ⟨b, b1, b2⟩ := hJ
  rw [m_X12_isBetween, rd_ok (by omega) (by omega), bnd_s, Int.toNat_natCast, f1]
  have hJ2 : ¬ (σ 2 w = s ∧ σ 3 w = o) → ∃ b, m_X12_isBetween_J20 τ w o s = some b ∧ Bb b (WAt σ w s o) := by
    intro hno
    refine ⟨b, b1, Bb_cg b2 ?_⟩
    unfold WAt
    exact ⟨fun q => Or.inr q, fun q => q.resolve_left hno⟩
  by_cases h1 : (A : Int) = s
  · rw [if_pos h1, rd_ok (by omega) (by omega), bnd_s, Int.toNat_natCast, f2]
    by_cases h2 : (B : Int) = o
    · rw [if_pos h2]; exact ⟨1, rfl, Bb_1 (Or.inl ⟨by omega, by omega⟩)⟩
    · rw [if_neg h2]; exact hJ2 (by omega)
  · rw [if_neg h1]; exact hJ2 (by omega)
/-- of the model's forth: by way w from o -/
def Qw (σ : St) (n : Int) (a d s o w : Nat) : Prop := WAt σ w s o ∧ (σ 4 w).toNat ≤ d ∧ Fth σ n a (d - (σ 4 w).toNat) o ∧ Unsn σ n a (d - (σ 4 w).toNat) (σ 4 w).toNat
theorem forth_o {σ τ : St} {n : Int} {a d s o : Nat} {far : Int} (hT : iTown σ) (hL : Lk σ τ) (ha : a < 8) (hd : d < 96) (hs : s < 10) (ho : o < 10) (hfar : ∀ l, Edge σ (σ 1 5) s o l → far ≤ l) (hF : ∀ d' s' : Nat, d' < d → s' < 10 → Bb (τ 222 (10 * d' + s')) (Fth σ n a d' s')) (hS : ∀ d : Nat, d < 96 → Bb (τ 225 (96 * a + d)) (Sgtd σ n a d)) :
    Hp (lp (fun z => m_X12_goesOne_L297 τ far s o d a z.1 z.2) (0, 0)) (fun v => Bb v (∃ w : Nat, (w : Int) < σ 1 5 ∧ Qw σ n a d s o w)) := by
  have t2 := hT.2.1
  have f31 : τ 170 31 = σ 1 5 := (hL 170 31 (by omega)).trans t2.1
  refine Hp_up (fun j (z : Int × Int) => z.2 = (j : Int) ∧ Bb z.1 (∃ w : Nat, w < j ∧ Qw σ n a d s o w)) 0 (σ 1 5).toNat (by omega) (by omega) ⟨rfl, Bb_0 (fun ⟨w, h, _⟩ => by omega)⟩ ?_ ?_
  · rintro j ⟨v, x⟩ - hj ⟨e1, e2⟩
    simp only at e1 e2
    subst e1
    obtain ⟨A, B, L, e2', e3, e4, e187, e188, e189, hA, hB, hAB, l1, l9, -⟩ := town_way hT (w := j) (by omega)
    have f189 : τ 189 j = L := (hL 189 j (by omega)).trans e189
    simp only [m_X12_goesOne_L297]
    rw [if_neg (by omega)]
    by_cases hfr : 1000 ≤ far
    · rw [if_pos hfr, Hp_some, Lq_inr]
      refine Bb_cg e2 ?_
      constructor
      · rintro ⟨w, hw, q⟩; exact ⟨w, by omega, q⟩
      · rintro ⟨w, hw, q⟩
        obtain ⟨A', B', L', g2, g3, g4, -, -, -, -, -, -, m1, m9, -⟩ := town_way hT hw
        have := hfar (σ 4 w) ⟨w, hw, rfl, q.1⟩
        omega
    · rw [if_neg hfr]
      have hstep : ∀ u : Int, Bb u (v = 1 ∨ Qw σ n a d s o j) → v = 0 → Bb u (∃ w : Nat, w < j + 1 ∧ Qw σ n a d s o w) := by
        intro u hu hv0
        refine Bb_cg hu ?_
        constructor
        · rintro (q | q)
          · omega
          · exact ⟨j, by omega, q⟩
        · rintro ⟨w, hw, q⟩
          by_cases hwj : w = j
          · subst hwj; exact Or.inr q
          · exact absurd ⟨w, by omega, q⟩ ((Bb_ne e2).mp hv0)
      by_cases hv : v = 0
      · rw [if_pos hv]
        obtain ⟨b, b1, b2⟩ := isBetw_sp (σ := σ) (τ := τ) (w := j) (s := s) (o := o) hT hL (by omega)
        rw [b1, bnd_s]
        by_cases hb : b = 0
        · rw [if_pos hb, Hp_some, Lq_inl, nx1 (by omega)]
          exact ⟨rfl, hstep v (by rw [hv]; exact Bb_0 (fun q => q.elim (by omega) (fun q => (Bb_ne b2).mp hb q.1))) hv⟩
        · have hW := b2.2.mp (by have := b2.1; omega)
          rw [if_neg hb, rd_ok (by omega) (by omega), bnd_s, Int.toNat_natCast, f189]
          by_cases hld : (d : Int) < L
          · rw [if_pos hld, Hp_some, Lq_inl, nx1 (by omega)]
            exact ⟨rfl, hstep v (by rw [hv]; exact Bb_0 (fun q => q.elim (by omega) (fun q => by have := q.2.1; omega))) hv⟩
          · rw [if_neg hld]
            rw [bnd_s]
            have ed : (d : Int) - L = ((d - L.toNat : Nat) : Int) := by omega
            rw [ed, wr_id' (x := ((d - L.toNat : Nat) : Int)) (by omega) (by omega), ix10 (by omega) (by omega), rd_ok (by omega) (by omega), bnd_s, Int.toNat_natCast]
            have hFo := hF (d - L.toNat) o (by omega) ho
            have eL : (σ 4 j).toNat = L.toNat := by omega
            by_cases hz : τ 222 (10 * (d - L.toNat) + o) = 0
            · rw [if_pos hz, Hp_some, Lq_inl, nx1 (by omega)]
              exact ⟨rfl, hstep v (by rw [hv]; exact Bb_0 (fun q => q.elim (by omega) (fun q => (Bb_ne hFo).mp hz (by have := q.2.2.1; rw [eL] at this; exact this)))) hv⟩
            · rw [if_neg hz, bnd_s, bnd_s]
              obtain ⟨c, c1, c2⟩ := isFree_sp (σ := σ) (τ := τ) (n := n) (a := a) (t := d - L.toNat) (l := L.toNat) ha (by omega) (by omega) hS
              rw [show L = ((L.toNat : Nat) : Int) by omega]
              rw [show wr ((d : Int) - ((L.toNat : Nat) : Int)) = ((d - L.toNat : Nat) : Int) by rw [wr_id' (by omega) (by omega)]; omega, c1, bnd_s]
              by_cases hc : c = 0
              · rw [if_pos hc, Hp_some, Lq_inl, nx1 (by omega)]
                exact ⟨rfl, hstep v (by rw [hv]; exact Bb_0 (fun q => q.elim (by omega) (fun q => (Bb_ne c2).mp hc (by have := q.2.2.2; rw [eL] at this; exact this)))) hv⟩
              · rw [if_neg hc, Hp_some, Lq_inl, nx1 (by omega)]
                refine ⟨rfl, hstep 1 (Bb_1 (Or.inr ⟨hW, by omega, ?_, ?_⟩)) hv⟩
                · rw [eL]; exact hFo.2.mp (by have := hFo.1; omega)
                · rw [eL]; exact c2.2.mp (by have := c2.1; omega)
      · rw [if_neg hv, Hp_some, Lq_inr]
        obtain ⟨w, hw, q⟩ := e2.2.mp (by have := e2.1; omega)
        have hv1 : v = 1 := by have := e2.1; omega
        rw [hv1]
        exact Bb_1 ⟨w, by omega, q⟩
  · rintro ⟨v, x⟩ ⟨e1, e2⟩
    simp only at e1 e2
    subst e1
    simp only [m_X12_goesOne_L297]
    rw [if_pos (by omega), Hp_some, Lq_inr]
    refine Bb_cg e2 ?_
    constructor
    · rintro ⟨w, hw, q⟩; exact ⟨w, by omega, q⟩
    · rintro ⟨w, hw, q⟩; exact ⟨w, by omega, q⟩
theorem forth_s {σ τ : St} {n : Int} {a d s : Nat} (hT : iTown σ) (hL : Lk σ τ) (ha : a < 8) (hd : d < 96) (hs : s < 10) (hD : isDir (Edge σ (σ 1 5)) (fun a b => τ 193 (10 * a + b))) (hF : ∀ d' s' : Nat, d' < d → s' < 10 → Bb (τ 222 (10 * d' + s')) (Fth σ n a d' s')) (hS : ∀ d : Nat, d < 96 → Bb (τ 225 (96 * a + d)) (Sgtd σ n a d)) :
    Hp (lp (fun z => m_X12_goesOne_L265 τ s d a z.1 z.2) (0, 0)) (fun v => Bb v (∃ o w : Nat, (w : Int) < σ 1 5 ∧ Qw σ n a d s o w)) := by
  have t1 := hT.1
  have f30 : τ 170 30 = σ 1 4 := (hL 170 30 (by omega)).trans t1.1
  refine Hp_up (fun j (z : Int × Int) => z.2 = (j : Int) ∧ Bb z.1 (∃ o : Nat, o < j ∧ ∃ w : Nat, (w : Int) < σ 1 5 ∧ Qw σ n a d s o w)) 0 (σ 1 4).toNat (by omega) (by omega) ⟨rfl, Bb_0 (fun ⟨o, h, _⟩ => by omega)⟩ ?_ ?_
  · rintro j ⟨v, x⟩ - hj ⟨e1, e2⟩
    simp only at e1 e2
    subst e1
    simp only [m_X12_goesOne_L265]
    rw [if_neg (by omega)]
    by_cases hv : v = 0
    · rw [if_pos hv, ix10 (by omega) (by omega), rd_ok (by omega) (by omega), bnd_s, Int.toNat_natCast, Hp_bind, hv]
      refine Hp_mono (forth_o (n := n) hT hL ha hd hs (by omega) (hD s j hs (by omega)).2.2.1 hF hS) ?_
      intro u hu
      rw [Hp_some, Lq_inl, nx1 (by omega)]
      refine ⟨rfl, Bb_cg hu ?_⟩
      constructor
      · intro q; exact ⟨j, by omega, q⟩
      · rintro ⟨o, ho, q⟩
        by_cases hoj : o = j
        · subst hoj; exact q
        · exact absurd ⟨o, by omega, q⟩ ((Bb_ne e2).mp hv)
    · rw [if_neg hv, Hp_some, Lq_inr]
      obtain ⟨o, ho, q⟩ := e2.2.mp (by have := e2.1; omega)
      have hv1 : v = 1 := by have := e2.1; omega
      rw [hv1]
      exact Bb_1 ⟨o, q⟩
  · rintro ⟨v, x⟩ ⟨e1, e2⟩
    simp only at e1 e2
    subst e1
    simp only [m_X12_goesOne_L265]
    rw [if_pos (by omega), Hp_some, Lq_inr]
    refine Bb_cg e2 ?_
    constructor
    · rintro ⟨o, ho, q⟩; exact ⟨o, q⟩
    · rintro ⟨o, w, hw, q⟩
      refine ⟨o, ?_, w, hw, q⟩
      obtain ⟨A, B, L, g2, g3, g4, -, -, -, -, -, -, m1, m9, g5, g6⟩ := town_way hT hw
      rcases q.1 with ⟨r1, r2⟩ | ⟨r1, r2⟩ <;> omega
theorem one_stays {τ : St} {s d a : Int} : Hp (lp (fun z => m_X12_goesOne_L265_119 τ s d a z.1 z.2) (1, 0)) (fun v => v = 1) := by
  refine Hp_lp (fun _ (z : Int × Int) => z.1 = 1) (n := 0) rfl (by omega) ?_
  rintro m ⟨v, x⟩ hv
  simp only at hv
  subst hv
  simp only [m_X12_goesOne_L265_119]
  by_cases h : τ 170 30 ≤ x
  · rw [if_pos h, Hp_some, Lq_inr]
  · rw [if_neg h, if_neg (by decide), Hp_some, Lq_inr]
theorem one_stays2 {τ : St} {s d a : Int} : Hp (lp (fun z => m_X12_goesOne_L505_193 τ s d a z.1 z.2) (1, 0)) (fun v => v = 1) := by
  refine Hp_lp (fun _ (z : Int × Int) => z.1 = 1) (n := 0) rfl (by omega) ?_
  rintro m ⟨v, x⟩ hv
  simp only at hv
  subst hv
  simp only [m_X12_goesOne_L505_193]
  by_cases h : τ 170 31 ≤ x
  · rw [if_pos h, Hp_some, Lq_inr]
  · rw [if_neg h, if_neg (by decide), Hp_some, Lq_inr]
/-- the model's forth, row by row -/
theorem m_forth {σ τ0 : St} {n : Int} {a : Nat} (hT : iTown σ) (hL : Lk σ τ0) (ha : a < 8) (hD : isDir (Edge σ (σ 1 5)) (fun a b => τ0 193 (10 * a + b))) (hS : ∀ d : Nat, d < 96 → Bb (τ0 225 (96 * a + d)) (Sgtd σ n a d)) (hM : ∀ d s : Nat, d < 96 → s < 10 → Bb (τ0 224 (10 * d + s)) (May σ n a d s)) :
    Hp (lp (fun z => m_X12_goesOne_L217 a z.1 z.2) (0, τ0)) (fun τ => Wr ([(222, 222)], []) τ0 τ ∧ ∀ d s : Nat, d < 96 → s < 10 → Bb (τ 222 (10 * d + s)) (Fth σ n a d s)) := by
  refine Hp_up (fun j (z : Int × St) => z.1 = (j : Int) ∧ Wr ([(222, 222)], []) τ0 z.2 ∧ ∀ d s : Nat, d < j → s < 10 → Bb (z.2 222 (10 * d + s)) (Fth σ n a d s)) 0 96 (by omega) (by omega) ⟨rfl, Wr_rf, fun d s h => by omega⟩ ?_ ?_
  · rintro d ⟨x, τ⟩ - hd ⟨e1, e2, e3⟩
    simp only at e1 e2 e3
    subst e1
    simp only [m_X12_goesOne_L217]
    rw [if_neg (by omega), Hp_bind]
    refine Hp_up (fun i (z : Int × St) => z.1 = (i : Int) ∧ Wr ([(222, 222)], []) τ0 z.2 ∧ ∀ d' s : Nat, (d' < d ∨ (d' = d ∧ s < i)) → s < 10 → Bb (z.2 222 (10 * d' + s)) (Fth σ n a d' s)) 0 10 (by omega) (by omega) ⟨rfl, e2, fun d' s h hs => e3 d' s (by omega) hs⟩ ?_ ?_
    · rintro s ⟨x, ρ⟩ - hs ⟨g1, g2, g3⟩
      simp only at g1 g2 g3
      subst g1
      have hL' : Lk σ ρ := by
        intro c j hc
        rw [← hL c j hc]
        rcases hc with q | q | q | ⟨q, q' | q'⟩
        · subst q; exact g2 _ _ rfl
        · subst q; exact g2 _ _ rfl
        · subst q; exact g2 _ _ rfl
        · subst q; subst q'; exact g2 _ _ rfl
        · subst q; subst q'; exact g2 _ _ rfl
      have hm : Bb (ρ 224 (10 * d + s)) (May σ n a d s) := by rw [g2 224 _ rfl]; exact hM d s hd hs
      -- writing of one entry
      have put : ∀ v : Int, Bb v (Fth σ n a d s) → Hp ((wt ρ 222 960 ((10 * d + s : Nat) : Int) v).bind fun σ1 => some (Sum.inl (wr ((s : Int) + 1), σ1))) (Lq (fun a_1 => Hp (some (Sum.inl (wr ((d : Int) + 1), a_1))) (Lq (fun τ => Wr ([(222, 222)], []) τ0 τ ∧ ∀ d s : Nat, d < 96 → s < 10 → Bb (τ 222 (10 * d + s)) (Fth σ n a d s)) (fun (z : Int × St) => z.1 = ((d + 1 : Nat) : Int) ∧ Wr ([(222, 222)], []) τ0 z.2 ∧ ∀ d' s : Nat, d' < d + 1 → s < 10 → Bb (z.2 222 (10 * d' + s)) (Fth σ n a d' s)))) (fun (z : Int × St) => z.1 = ((s + 1 : Nat) : Int) ∧ Wr ([(222, 222)], []) τ0 z.2 ∧ ∀ d' s' : Nat, (d' < d ∨ (d' = d ∧ s' < s + 1)) → s' < 10 → Bb (z.2 222 (10 * d' + s')) (Fth σ n a d' s'))) := by
        intro v hv
        rw [Hp_bind, Hp_wt]
        refine ⟨by omega, ?_⟩
        rw [Int.toNat_natCast, Hp_some, Lq_inl, nx1 (by omega)]
        refine ⟨rfl, Wr_up g2 rfl, ?_⟩
        intro d' s' h hs'
        simp only
        by_cases hds : 10 * d' + s' = 10 * d + s
        · have q1 : d' = d := by omega
          have q2 : s' = s := by omega
          subst q1; subst q2
          rw [up_eq]; exact hv
        · rw [up_slot hds]; exact g3 d' s' (by omega) hs'
      have hJ : (May σ n a d s → Fth σ n a d s) → Hp (m_X12_goesOne_J255 ρ s d a) (Lq (fun a_1 => Hp (some (Sum.inl (wr ((d : Int) + 1), a_1))) (Lq (fun τ => Wr ([(222, 222)], []) τ0 τ ∧ ∀ d s : Nat, d < 96 → s < 10 → Bb (τ 222 (10 * d + s)) (Fth σ n a d s)) (fun (z : Int × St) => z.1 = ((d + 1 : Nat) : Int) ∧ Wr ([(222, 222)], []) τ0 z.2 ∧ ∀ d' s : Nat, d' < d + 1 → s < 10 → Bb (z.2 222 (10 * d' + s)) (Fth σ n a d' s)))) (fun (z : Int × St) => z.1 = ((s + 1 : Nat) : Int) ∧ Wr ([(222, 222)], []) τ0 z.2 ∧ ∀ d' s' : Nat, (d' < d ∨ (d' = d ∧ s' < s + 1)) → s' < 10 → Bb (z.2 222 (10 * d' + s')) (Fth σ n a d' s'))) := by
        intro hok
        have hFM : Fth σ n a d s → May σ n a d s := by
          intro q
          cases d with
          | zero => rw [Fth] at q; exact q
          | succ d => rw [Fth] at q; exact q.1
        rw [m_X12_goesOne_J255, Hp_bind]
        refine Hp_mono one_stays ?_
        intro v hv
        rw [if_neg (by omega), ix10 (by omega) (by omega), rd_ok (by omega) (by omega), bnd_s, Int.toNat_natCast]
        by_cases hz : ρ 224 (10 * d + s) = 0
        · rw [if_pos hz]
          exact put 0 (Bb_0 (fun q => (Bb_ne hm).mp hz (hFM q)))
        · rw [if_neg hz]
          exact put 1 (Bb_1 (hok (hm.2.mp (by have := hm.1; omega))))
      simp only [m_X12_goesOne_L226]
      rw [if_neg (by omega)]
      by_cases h0 : (d : Int) = 0
      · rw [if_pos h0]
        refine hJ (fun q => ?_)
        have : d = 0 := by omega
        subst this
        rw [Fth]; exact q
      · rw [if_neg h0]
        obtain ⟨e, rfl⟩ : ∃ e, d = e + 1 := ⟨d - 1, by omega⟩
        have ex : wr (wr (wr (10 * ((e + 1 : Nat) : Int)) - 10) + (s : Int)) = ((10 * e + s : Nat) : Int) := by
          rw [wr_id' (x := 10 * ((e + 1 : Nat) : Int)) (by omega) (by omega), wr_id' (x := 10 * ((e + 1 : Nat) : Int) - 10) (by omega) (by omega), wr_id' (by omega) (by omega)]; omega
        rw [ex, rd_ok (by omega) (by omega), bnd_s, Int.toNat_natCast]
        have hprev := g3 e s (by omega) hs
        by_cases hz : ρ 222 (10 * e + s) = 0
        · rw [if_pos hz, Hp_bind]
          refine Hp_mono (forth_s (σ := σ) (n := n) hT hL' ha hd hs ?_ (fun d' s' h1 h2 => g3 d' s' (by omega) h2) (fun d hd => by rw [g2 225 _ rfl]; exact hS d hd)) ?_
          · have : (fun a b => ρ 193 (10 * a + b)) = (fun a b => τ0 193 (10 * a + b)) := by
              funext x y; exact g2 193 _ rfl
            rw [this]; exact hD
          · intro v hv
            have hQ : (∃ o w : Nat, (w : Int) < σ 1 5 ∧ Qw σ n a (e + 1) s o w) ↔ ∃ o l, ∃ _ : 1 ≤ l ∧ l ≤ e + 1, Way σ s o l ∧ Unsn σ n a (e + 1 - l) l ∧ Fth σ n a (e + 1 - l) o := by
              constructor
              · rintro ⟨o, w, hw, q1, q2, q3, q4⟩
                obtain ⟨A, B, L, -, -, g4, -, -, -, -, -, -, m1, m9, -⟩ := town_way hT hw
                refine ⟨o, (σ 4 w).toNat, ⟨by omega, q2⟩, ?_, q4, q3⟩
                rw [way_iff hT]; exact ⟨w, hw, q1, by omega⟩
              · rintro ⟨o, l, ⟨q1, q2⟩, q3, q4, q5⟩
                rw [way_iff hT] at q3
                obtain ⟨w, w1, w2, w3⟩ := q3
                have el : (σ 4 w).toNat = l := by omega
                exact ⟨o, w, w1, w2, by omega, by rw [el]; exact q5, by rw [el]; exact q4⟩
            have hFe : Fth σ n a (e + 1) s ↔ May σ n a (e + 1) s ∧ (∃ o w : Nat, (w : Int) < σ 1 5 ∧ Qw σ n a (e + 1) s o w) := by
              rw [Fth, hQ]
              constructor
              · rintro ⟨q1, (q2 | q2)⟩
                · exact absurd q2 ((Bb_ne hprev).mp hz)
                · exact ⟨q1, q2⟩
              · rintro ⟨q1, q2⟩; exact ⟨q1, Or.inr q2⟩
            rw [ix10 (by omega) (by omega)]
            by_cases hv0 : v = 0
            · rw [if_pos hv0]
              exact put 0 (Bb_0 (fun q => (Bb_ne hv).mp hv0 (hFe.mp q).2))
            · have hv1 := hv.2.mp (by have := hv.1; omega)
              rw [if_neg hv0, rd_ok (by omega) (by omega), bnd_s, Int.toNat_natCast]
              by_cases hz2 : ρ 224 (10 * (e + 1) + s) = 0
              · rw [if_pos hz2]
                exact put 0 (Bb_0 (fun q => (Bb_ne hm).mp hz2 (hFe.mp q).1))
              · rw [if_neg hz2]
                exact put 1 (Bb_1 (hFe.mpr ⟨hm.2.mp (by have := hm.1; omega), hv1⟩))
        · rw [if_neg hz]
          refine hJ (fun q => ?_)
          rw [Fth]
          exact ⟨q, Or.inl (hprev.2.mp (by have := hprev.1; omega))⟩
    · rintro ⟨x, ρ⟩ ⟨g1, g2, g3⟩
      simp only at g1 g2 g3
      subst g1
      simp only [m_X12_goesOne_L226]
      rw [if_pos (by omega), Hp_some, Lq_inr, Hp_some, Lq_inl, nx1 (by omega)]
      exact ⟨rfl, g2, fun d' s h hs => g3 d' s (by omega) hs⟩
  · rintro ⟨x, τ⟩ ⟨e1, e2, e3⟩
    simp only at e1 e2 e3
    subst e1
    simp only [m_X12_goesOne_L217]
    rw [if_pos (by omega), Hp_some, Lq_inr]
    exact ⟨e2, e3⟩
theorem m_back_w {σ τ : St} {n : Int} {a d s : Nat} (hT : iTown σ) (hL : Lk σ τ) (ha : a < 8) (hd : d < 96) (hs : s < 10) (hF : ∀ d' s' : Nat, d < d' → d' < 96 → s' < 10 → Bb (τ 223 (10 * d' + s')) (Bck σ n a (95 - d') s')) (hS : ∀ d : Nat, d < 96 → Bb (τ 225 (96 * a + d)) (Sgtd σ n a d)) :
    Hp (lp (fun z => m_X12_goesOne_L505 τ s d a z.1 z.2) (0, 0)) (fun v => Bb v (Bw σ n a d (σ 1 5).toNat s)) := by
  have t2 := hT.2.1
  have f31 : τ 170 31 = σ 1 5 := (hL 170 31 (by omega)).trans t2.1
  refine Hp_up (fun j (z : Int × Int) => z.2 = (j : Int) ∧ Bb z.1 (Bw σ n a d j s)) 0 (σ 1 5).toNat (by omega) (by omega) ⟨rfl, Bb_0 (fun ⟨w, h, _⟩ => by omega)⟩ ?_ ?_
  · rintro j ⟨v, x⟩ - hj ⟨e1, e2⟩
    simp only at e1 e2
    subst e1
    obtain ⟨A, B, L, e2', e3, e4, e187, e188, e189, hA, hB, hAB, l1, l9, -⟩ := town_way hT (w := j) (by omega)
    have f187 : τ 187 j = A := (hL 187 j (by omega)).trans e187
    have f188 : τ 188 j = B := (hL 188 j (by omega)).trans e188
    have f189 : τ 189 j = L := (hL 189 j (by omega)).trans e189
    simp only [m_X12_goesOne_L505]
    rw [if_neg (by omega)]
    by_cases hv : v = 0
    · rw [if_pos hv]
      have hstep : ∀ u : Int, Bb u (∃ o, WAt σ j s o ∧ Unsn σ n a d (σ 4 j).toNat ∧ (96 ≤ d + (σ 4 j).toNat ∨ (d + (σ 4 j).toNat < 96 ∧ Bck σ n a (95 - (d + (σ 4 j).toNat)) o))) → Bb u (Bw σ n a d (j + 1) s) := by
        intro u hu
        refine Bb_cg hu ?_
        constructor
        · intro q; exact ⟨j, by omega, q⟩
        · rintro ⟨w, hw, q⟩
          by_cases hwj : w = j
          · subst hwj; exact q
          · exact absurd ⟨w, by omega, q⟩ ((Bb_ne e2).mp hv)
      have eL : (σ 4 j).toNat = L.toNat := by omega
      have hJ : ∀ o : Nat, o < 10 → WAt σ j s o → ((A : Int) + B - s = o) → (∀ o', WAt σ j s o' → o' = o) → Hp (m_X12_goesOne_J546 τ j s d a v) (Lq (fun v => Bb v (Bw σ n a d (σ 1 5).toNat s)) (fun (z : Int × Int) => z.2 = ((j + 1 : Nat) : Int) ∧ Bb z.1 (Bw σ n a d (j + 1) s))) := by
        intro o ho hW hsum huq
        rw [m_X12_goesOne_J546, rd_ok (by omega) (by omega), bnd_s, rd_ok (by omega) (by omega), bnd_s]
        simp only [vl, bnd_s, Int.toNat_natCast]
        rw [f187, f188, rd_ok (by omega) (by omega), bnd_s, bnd_s]
        simp only [Int.toNat_natCast]
        rw [f189, wr_id' (x := (A : Int) + B) (by omega) (by omega), wr_id' (x := (A : Int) + B - s) (by omega) (by omega), hsum, wr_id' (x := (d : Int) + L) (by omega) (by omega)]
        obtain ⟨c, c1, c2⟩ := isFree_sp (σ := σ) (τ := τ) (n := n) (a := a) (t := d) (l := L.toNat) ha (by omega) (by omega) hS
        rw [show L = ((L.toNat : Nat) : Int) by omega, c1, bnd_s]
        by_cases hc : c = 0
        · rw [if_pos hc, Hp_some, Lq_inl, nx1 (by omega)]
          refine ⟨rfl, hstep v ?_⟩
          rw [hv]
          refine Bb_0 ?_
          rintro ⟨o', q1, q2, q3⟩
          rw [eL] at q2
          exact (Bb_ne c2).mp hc q2
        · have hU := c2.2.mp (by have := c2.1; omega)
          rw [if_neg hc]
          by_cases h96 : (96 : Int) ≤ d + ((L.toNat : Nat) : Int)
          · rw [if_pos h96, Hp_some, Lq_inl, nx1 (by omega)]
            refine ⟨rfl, hstep 1 (Bb_1 ⟨o, hW, ?_, Or.inl (by omega)⟩)⟩
            rw [eL]; exact hU
          · rw [if_neg h96, show (d : Int) + ((L.toNat : Nat) : Int) = ((d + L.toNat : Nat) : Int) by omega, ix10 (by omega) (by omega), rd_ok (by omega) (by omega), bnd_s, Int.toNat_natCast]
            have hb := hF (d + L.toNat) o (by omega) (by omega) ho
            by_cases hz : τ 223 (10 * (d + L.toNat) + o) = 0
            · rw [if_pos hz, Hp_some, Lq_inl, nx1 (by omega)]
              refine ⟨rfl, hstep v ?_⟩
              rw [hv]
              refine Bb_0 ?_
              rintro ⟨o', q1, q2, (q3 | ⟨q3, q4⟩)⟩
              · omega
              · have := huq o' q1
                subst this
                rw [eL] at q4
                exact (Bb_ne hb).mp hz q4
            · rw [if_neg hz, Hp_some, Lq_inl, nx1 (by omega)]
              refine ⟨rfl, hstep 1 (Bb_1 ⟨o, hW, ?_, Or.inr ⟨by omega, ?_⟩⟩)⟩
              · rw [eL]; exact hU
              · rw [eL]; exact hb.2.mp (by have := hb.1; omega)
      rw [rd_ok (by omega) (by omega), bnd_s, Int.toNat_natCast, f187]
      by_cases h1 : (A : Int) = s
      · rw [if_pos h1]
        refine hJ B hB (Or.inl ⟨by omega, by omega⟩) (by omega) ?_
        rintro o' (⟨q1, q2⟩ | ⟨q1, q2⟩) <;> omega
      · rw [if_neg h1, rd_ok (by omega) (by omega), bnd_s, Int.toNat_natCast, f188]
        by_cases h2 : (B : Int) = s
        · rw [if_pos h2]
          refine hJ A hA (Or.inr ⟨by omega, by omega⟩) (by omega) ?_
          rintro o' (⟨q1, q2⟩ | ⟨q1, q2⟩) <;> omega
        · rw [if_neg h2, Hp_some, Lq_inl, nx1 (by omega)]
          refine ⟨rfl, hstep v ?_⟩
          rw [hv]
          refine Bb_0 ?_
          rintro ⟨o', (⟨q1, q2⟩ | ⟨q1, q2⟩), -⟩ <;> omega
    · rw [if_neg hv, Hp_some, Lq_inr]
      obtain ⟨w, hw, q⟩ := e2.2.mp (by have := e2.1; omega)
      have hv1 : v = 1 := by have := e2.1; omega
      rw [hv1]
      exact Bb_1 ⟨w, by omega, q⟩
  · rintro ⟨v, x⟩ ⟨e1, e2⟩
    simp only at e1 e2
    subst e1
    simp only [m_X12_goesOne_L505]
    rw [if_pos (by omega), Hp_some, Lq_inr]
    exact e2
theorem m_back {σ τ0 : St} {n : Int} {a : Nat} (hT : iTown σ) (hL : Lk σ τ0) (ha : a < 8) (hS : ∀ d : Nat, d < 96 → Bb (τ0 225 (96 * a + d)) (Sgtd σ n a d)) (hM : ∀ d s : Nat, d < 96 → s < 10 → Bb (τ0 224 (10 * d + s)) (May σ n a d s)) :
    Hp (lp (fun z => m_X12_goesOne_L457 a z.1 z.2) (95, τ0)) (fun τ => Wr ([(223, 223)], []) τ0 τ ∧ ∀ d s : Nat, d < 96 → s < 10 → Bb (τ 223 (10 * d + s)) (Bck σ n a (95 - d) s)) := by
  have t1 := hT.1
  refine Hp_dn (fun j (z : Int × St) => z.1 = (j : Int) - 1 ∧ Wr ([(223, 223)], []) τ0 z.2 ∧ ∀ d s : Nat, j ≤ d → d < 96 → s < 10 → Bb (z.2 223 (10 * d + s)) (Bck σ n a (95 - d) s)) 96 (by omega) ⟨rfl, Wr_rf, fun d s h1 h2 => by omega⟩ ?_ ?_
  · rintro d ⟨x, τ⟩ hd ⟨e1, e2, e3⟩
    simp only at e1 e2 e3
    have hx : x = (d : Int) := by omega
    subst hx
    have hnx : wr ((d : Int) + (-1)) = (d : Int) - 1 := by rw [wr_id' (by omega) (by omega)]; omega
    simp only [m_X12_goesOne_L457]
    rw [if_neg (by omega), Hp_bind]
    refine Hp_up (fun i (z : Int × St) => z.1 = (i : Int) ∧ Wr ([(223, 223)], []) τ0 z.2 ∧ ∀ d' s : Nat, (d < d' ∨ (d' = d ∧ s < i)) → d' < 96 → s < 10 → Bb (z.2 223 (10 * d' + s)) (Bck σ n a (95 - d') s)) 0 10 (by omega) (by omega) ⟨rfl, e2, fun d' s h h2 hs => e3 d' s (by omega) h2 hs⟩ ?_ ?_
    · rintro s ⟨x, ρ⟩ - hs ⟨g1, g2, g3⟩
      simp only at g1 g2 g3
      subst g1
      have hL' : Lk σ ρ := by
        intro c j hc
        rw [← hL c j hc]
        rcases hc with q | q | q | ⟨q, q' | q'⟩
        · subst q; exact g2 _ _ rfl
        · subst q; exact g2 _ _ rfl
        · subst q; exact g2 _ _ rfl
        · subst q; subst q'; exact g2 _ _ rfl
        · subst q; subst q'; exact g2 _ _ rfl
      have hm : Bb (ρ 224 (10 * d + s)) (May σ n a d s) := by rw [g2 224 _ rfl]; exact hM d s hd hs
      have put : ∀ v : Int, Bb v (Bck σ n a (95 - d) s) → Hp ((wt ρ 223 960 ((10 * d + s : Nat) : Int) v).bind fun σ1 => some (Sum.inl (wr ((s : Int) + 1), σ1))) (Lq (fun a_1 => Hp (some (Sum.inl (wr ((d : Int) + (-1)), a_1))) (Lq (fun τ => Wr ([(223, 223)], []) τ0 τ ∧ ∀ d s : Nat, d < 96 → s < 10 → Bb (τ 223 (10 * d + s)) (Bck σ n a (95 - d) s)) (fun (z : Int × St) => z.1 = (d : Int) - 1 ∧ Wr ([(223, 223)], []) τ0 z.2 ∧ ∀ d' s : Nat, d ≤ d' → d' < 96 → s < 10 → Bb (z.2 223 (10 * d' + s)) (Bck σ n a (95 - d') s)))) (fun (z : Int × St) => z.1 = ((s + 1 : Nat) : Int) ∧ Wr ([(223, 223)], []) τ0 z.2 ∧ ∀ d' s' : Nat, (d < d' ∨ (d' = d ∧ s' < s + 1)) → d' < 96 → s' < 10 → Bb (z.2 223 (10 * d' + s')) (Bck σ n a (95 - d') s'))) := by
        intro v hv
        rw [Hp_bind, Hp_wt]
        refine ⟨by omega, ?_⟩
        rw [Int.toNat_natCast, Hp_some, Lq_inl, nx1 (by omega)]
        refine ⟨rfl, Wr_up g2 rfl, ?_⟩
        intro d' s' h hd' hs'
        simp only
        by_cases hds : 10 * d' + s' = 10 * d + s
        · have q1 : d' = d := by omega
          have q2 : s' = s := by omega
          subst q1; subst q2
          rw [up_eq]; exact hv
        · rw [up_slot hds]; exact g3 d' s' (by omega) hd' hs'
      have hbi := bck_iff (σ := σ) (n := n) (a := a) (t := d) hT hd (j := (σ 1 5).toNat) (by have := hT.2.1; omega) s
      have hJ : (May σ n a d s → Bck σ n a (95 - d) s) → Hp (m_X12_goesOne_J495 ρ s d a) (Lq (fun a_1 => Hp (some (Sum.inl (wr ((d : Int) + (-1)), a_1))) (Lq (fun τ => Wr ([(223, 223)], []) τ0 τ ∧ ∀ d s : Nat, d < 96 → s < 10 → Bb (τ 223 (10 * d + s)) (Bck σ n a (95 - d) s)) (fun (z : Int × St) => z.1 = (d : Int) - 1 ∧ Wr ([(223, 223)], []) τ0 z.2 ∧ ∀ d' s : Nat, d ≤ d' → d' < 96 → s < 10 → Bb (z.2 223 (10 * d' + s)) (Bck σ n a (95 - d') s)))) (fun (z : Int × St) => z.1 = ((s + 1 : Nat) : Int) ∧ Wr ([(223, 223)], []) τ0 z.2 ∧ ∀ d' s' : Nat, (d < d' ∨ (d' = d ∧ s' < s + 1)) → d' < 96 → s' < 10 → Bb (z.2 223 (10 * d' + s')) (Bck σ n a (95 - d') s'))) := by
        intro hok
        rw [m_X12_goesOne_J495, Hp_bind]
        refine Hp_mono one_stays2 ?_
        intro v hv
        rw [if_neg (by omega), ix10 (by omega) (by omega), rd_ok (by omega) (by omega), bnd_s, Int.toNat_natCast]
        by_cases hz : ρ 224 (10 * d + s) = 0
        · rw [if_pos hz]
          exact put 0 (Bb_0 (fun q => (Bb_ne hm).mp hz (hbi.mp q).1))
        · rw [if_neg hz]
          exact put 1 (Bb_1 (hok (hm.2.mp (by have := hm.1; omega))))
      simp only [m_X12_goesOne_L464]
      rw [if_neg (by omega)]
      by_cases h95 : (d : Int) = 95
      · rw [if_pos h95]
        refine hJ (fun q => hbi.mpr ⟨q, Or.inr (Or.inl ⟨by omega, ?_⟩)⟩)
        have := q.1
        omega
      · rw [if_neg h95]
        have ex : wr (wr (wr (10 * (d : Int)) + 10) + (s : Int)) = ((10 * (d + 1) + s : Nat) : Int) := by
          rw [wr_id' (x := 10 * (d : Int)) (by omega) (by omega), wr_id' (x := 10 * (d : Int) + 10) (by omega) (by omega), wr_id' (by omega) (by omega)]; omega
        rw [ex, rd_ok (by omega) (by omega), bnd_s, Int.toNat_natCast]
        have hprev := g3 (d + 1) s (by omega) (by omega) hs
        by_cases hz : ρ 223 (10 * (d + 1) + s) = 0
        · rw [if_pos hz, Hp_bind]
          refine Hp_mono (m_back_w (σ := σ) (n := n) hT hL' ha hd hs (fun d' s' h1 h2 h3 => g3 d' s' (by omega) h2 h3) (fun d hd => by rw [g2 225 _ rfl]; exact hS d hd)) ?_
          intro v hv
          have hBe : Bck σ n a (95 - d) s ↔ May σ n a d s ∧ Bw σ n a d (σ 1 5).toNat s := by
            rw [hbi]
            constructor
            · rintro ⟨q1, (⟨-, q2⟩ | ⟨q2, -⟩ | q2)⟩
              · exact absurd q2 ((Bb_ne hprev).mp hz)
              · omega
              · exact ⟨q1, q2⟩
            · rintro ⟨q1, q2⟩; exact ⟨q1, Or.inr (Or.inr q2)⟩
          rw [ix10 (by omega) (by omega)]
          by_cases hv0 : v = 0
          · rw [if_pos hv0]
            exact put 0 (Bb_0 (fun q => (Bb_ne hv).mp hv0 (hBe.mp q).2))
          · have hv1 := hv.2.mp (by have := hv.1; omega)
            rw [if_neg hv0, rd_ok (by omega) (by omega), bnd_s, Int.toNat_natCast]
            by_cases hz2 : ρ 224 (10 * d + s) = 0
            · rw [if_pos hz2]
              exact put 0 (Bb_0 (fun q => (Bb_ne hm).mp hz2 (hBe.mp q).1))
            · rw [if_neg hz2]
              exact put 1 (Bb_1 (hBe.mpr ⟨hm.2.mp (by have := hm.1; omega), hv1⟩))
        · rw [if_neg hz]
          refine hJ (fun q => hbi.mpr ⟨q, Or.inl ⟨by omega, hprev.2.mp (by have := hprev.1; omega)⟩⟩)
    · rintro ⟨x, ρ⟩ ⟨g1, g2, g3⟩
      simp only at g1 g2 g3
      subst g1
      simp only [m_X12_goesOne_L464]
      rw [if_pos (by omega), Hp_some, Lq_inr, Hp_some, Lq_inl, hnx]
      exact ⟨rfl, g2, fun d' s h1 h2 hs => g3 d' s (by omega) h2 hs⟩
  · rintro ⟨x, τ⟩ ⟨e1, e2, e3⟩
    simp only at e1 e2 e3
    simp only [m_X12_goesOne_L457]
    rw [if_pos (by omega), Hp_some, Lq_inr]
    exact ⟨e2, fun d s hd hs => e3 d s (by omega) hd hs⟩
