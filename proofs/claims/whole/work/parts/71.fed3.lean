/-! fed: the whole call -/
theorem goes_sp2 {σ : St} {n : Int} (k1 : iTown σ) (k6 : iAg σ) (k7 : iBook σ) (k8 : iCan σ) (hn : 0 ≤ n ∧ n ≤ σ 30 5) : Hp (m_X12_goes n σ) (fun τ => GoP σ τ n ∧ iCan τ) := by
  have a0 := k6.1
  have b0 := k7.1
  rw [m_X12_goes]
  by_cases hc : σ 170 74 = n
  · rw [if_pos hc, Hp_some]
    refine ⟨⟨Wr_rf, hc, ?_⟩, k8⟩
    rcases k8 with q | ⟨q1, q2, q3⟩
    · omega
    · rw [hc] at q2 q3
      intro a ha
      refine ⟨fun d hd => ?_, fun d s hd hs => ?_⟩
      · have := q2 a d ha hd
        rw [sgtd_vw] at this
        exact this
      · have := q3 a d s ha hd hs
        rw [can_vw] at this
        exact this
  · rw [if_neg hc, pt_s, bnd_s]
    have hw0 : Wr ([], [(170, 74)]) σ (up σ 170 74 n) := Wr_up Wr_rf rfl
    have hT0 : iTown (up σ 170 74 n) := keep dep_iTown hw0 (by decide +kernel) k1
    have hB0 : iBook (up σ 170 74 n) := keep dep_iBook hw0 (by decide +kernel) k7
    have e5 : up σ 170 74 n 30 5 = σ 30 5 := up_cell (by decide)
    obtain ⟨τ1, o1, m1, m2, m3⟩ := meas_sp hT0
    have hw1 : Wr ([(193, 194)], [(170, 74)]) σ τ1 := Wr_tr (Wr_sb hw0 rfl) (Wr_sb m1 rfl)
    have hT1 : iTown τ1 := keep dep_iTown hw1 (by decide +kernel) k1
    have hB1 : iBook τ1 := keep dep_iBook hw1 (by decide +kernel) k7
    have e51 : τ1 30 5 = σ 30 5 := hw1 30 5 rfl
    obtain ⟨τ2, o2, w2, p2⟩ := posts_sp (σ := τ1) (n := n) hB1 hT1 (by omega)
    have hw2 : Wr ([(193, 194), (200, 200), (221, 225)], [(170, 74)]) σ τ2 := Wr_tr (Wr_sb hw1 rfl) (Wr_sb w2 rfl)
    obtain ⟨τ3, o3, w3, z3⟩ := fill_sp (f := fun a => m_X12_goes_L25 a.1 a.2) (σ := τ2) (c := 225) (N := 768) (NI := 768) (v := 0) (by omega) (by omega) q_h
    have hw3 : Wr ([(193, 194), (200, 200), (221, 225)], [(170, 74)]) σ τ3 := Wr_tr hw2 (Wr_sb w3 rfl)
    rw [o1, bnd_s, o2, bnd_s, o3, bnd_s, Hp_bind]
    simp only [Hp_some]
    have hst : ∀ k, Strk τ1 n k ↔ Strk σ n k := fun k => strk_cg (funext fun i => hw1 195 i rfl) (funext fun i => hw1 196 i rfl) n k
    have hP3 : PostP σ τ3 n := by
      intro s t hs ht
      rw [w3 200 _ rfl]
      refine Bb_cg (p2 s t hs ht) ?_
      unfold Wtch
      simp only [hst]
      rw [show τ1 195 = σ 195 from funext fun i => hw1 195 i rfl, show τ1 197 = σ 197 from funext fun i => hw1 197 i rfl, show τ1 198 = σ 198 from funext fun i => hw1 198 i rfl, show τ1 199 = σ 199 from funext fun i => hw1 199 i rfl]
    have hE : Edge (up σ 170 74 n) (up σ 170 74 n 1 5) = Edge σ (σ 1 5) := by
      funext x y l
      unfold Edge
      rw [up_cell (show 1 ≠ 170 by decide), up_ne 2 (by decide), up_ne 3 (by decide), up_ne 4 (by decide)]
    have hD3 : isDir (Edge σ (σ 1 5)) (fun a b => τ3 193 (10 * a + b)) := by
      rw [hE] at m3
      have : (fun a b => τ3 193 (10 * a + b)) = (fun a b => τ1 193 (10 * a + b)) := by
        funext x y; rw [w3 193 _ rfl, w2 193 _ rfl]
      rw [this]; exact m3
    refine Hp_up (fun j (z : Int × St) => z.1 = (j : Int) ∧ Wr ([(221, 225)], []) τ3 z.2 ∧ (∀ a : Nat, a < j → GoA σ z.2 n a) ∧ ∀ a d : Nat, j ≤ a → a < 8 → d < 96 → z.2 225 (96 * a + d) = 0) 0 (σ 170 35).toNat (by omega) (by omega) ⟨rfl, Wr_rf, fun a h => by omega, fun a d _ ha hd => z3 _ (by omega)⟩ ?_ ?_
    · rintro j ⟨x, τ⟩ - hj ⟨e1, e2, e3, e4⟩
      simp only at e1 e2 e3 e4
      subst e1
      have f35 : τ 170 35 = σ 170 35 := (e2 170 35 rfl).trans (hw3 170 35 rfl)
      simp only [m_X12_goes_L47]
      rw [if_neg (by omega), Hp_bind]
      refine Hp_mono (goesOne_sp (σ := σ) (τ0 := τ) (n := n) (a := j) k7 k1 hn (by omega) (Wr_tr hw3 (Wr_sb e2 rfl)) ?_ ?_ (fun d hd => e4 j d (by omega) (by omega) hd)) ?_
      · intro s t hs ht
        rw [e2 200 _ rfl]; exact hP3 s t hs ht
      · have : (fun a b => τ 193 (10 * a + b)) = (fun a b => τ3 193 (10 * a + b)) := by
          funext x y; exact e2 193 _ rfl
        rw [this]; exact hD3
      · rintro τ' ⟨w, g1, g2, g3⟩
        rw [Hp_some, Lq_inl, nx1 (by omega)]
        refine ⟨rfl, Wr_tr e2 w, ?_, ?_⟩
        · intro b hb
          by_cases hbj : b = j
          · subst hbj; exact g1
          · have := e3 b (by omega)
            refine ⟨fun d hd => ?_, fun d s hd hs => ?_⟩
            · simp only
              rw [g2 b d hbj hd]; exact this.1 d hd
            · simp only
              rw [show 960 * b + 10 * d + s = 960 * b + (10 * d + s) by omega, g3 b _ hbj (by omega), show 960 * b + (10 * d + s) = 960 * b + 10 * d + s by omega]
              exact this.2 d s hd hs
        · intro b d hb hb8 hd
          simp only
          rw [g2 b d (by omega) hd]
          exact e4 b d (by omega) hb8 hd
    · rintro ⟨x, τ⟩ ⟨e1, e2, e3, e4⟩
      simp only at e1 e2 e3 e4
      subst e1
      have hwF : Wr ([(193, 194), (200, 200), (221, 225)], [(170, 74)]) σ τ := Wr_tr hw3 (Wr_sb e2 rfl)
      have f35 : τ 170 35 = σ 170 35 := hwF 170 35 rfl
      have f74 : τ 170 74 = n := by
        rw [e2 170 74 rfl, w3 170 74 rfl, w2 170 74 rfl, m1 170 74 rfl, up_eq]
      simp only [m_X12_goes_L47]
      rw [if_pos (by omega), Hp_some, Lq_inr]
      have hG : GoP σ τ n := ⟨hwF, f74, fun a ha => e3 a (by omega)⟩
      refine ⟨hG, ?_⟩
      right
      rw [f74]
      have hv : vw τ n = vw σ n := by
        refine vw_app (by omega) ?_ ?_
        · intro k j hk
          rcases hk with q | q | q | ⟨q, q' | q'⟩
          · subst q; exact hwF _ j rfl
          · subst q; exact hwF _ j rfl
          · subst q; exact hwF _ j rfl
          · subst q; subst q'; exact hwF _ _ rfl
          · subst q; subst q'; exact hwF _ _ rfl
        · intro j _
          exact ⟨hwF 195 j rfl, hwF 196 j rfl, hwF 197 j rfl, hwF 198 j rfl, hwF 199 j rfl⟩
      rw [hv, f35, hwF 170 41 rfl]
      refine ⟨by omega, ?_, ?_⟩
      · intro a t ha ht
        have := (hG.2.2 a ha).1 t ht
        rw [sgtd_vw]
        exact this
      · intro a t s ha ht hs
        have := (hG.2.2 a ha).2 t s ht hs
        rw [can_vw]
        exact this
theorem shl_lt {a : Int} {A : Nat} (hA : A ≤ 8) (h : 0 ≤ a ∧ a < shlI 1 (A : Int)) (hin : InI a) {i : Nat} (hi : tb a i = true) : i < A := by
  rw [shl1 ⟨A, by omega⟩] at h
  have hm := (mask_iff hin (n := A) (by omega)).mp ⟨h.1, by have := h.2; simpa using this⟩
  by_cases hlt : i < A
  · exact hlt
  · rw [hm i (by omega)] at hi
    exact absurd hi (by decide)
theorem c_fed : PS_fed Inv := by
  intro σ a1 a2 a3 a4 a5 a6 hok hI h1 h2 h3 h4 h5 h6
  apply ps_of
  have hI2 := hI
  obtain ⟨k1, k2, k3, k4, k5, k6, k7, k8, k9, k10, k11⟩ := hI2
  have hq := inv_thr (x := 0) hI
  have a0 := k6.1
  have b0 := k7.1
  have one0 : ¬ (1 : Int) = 0 := by decide
  have hbad : ¬ ((0 ≤ a1 ∧ a1 < shlI 1 (σ 0 6)) ∧ a1 ≠ 0 ∧ (1 ≤ a2 ∧ a2 ≤ 3) ∧ (0 ≤ a3 ∧ a3 < 96) ∧ (0 ≤ a4 ∧ a4 < 96) ∧ a3 ≤ a4 ∧ (0 ≤ a6 ∧ a6 ≤ σ 30 5)) → Hp (m_X12_fed a1 a2 a3 a4 a5 a6 σ) (fun q => q.1 = -1 ∧ Inv q.2) := by
    intro hc
    rw [m_X12_fed, pt_s, bnd_s]
    by_cases c0 : a1 < 1
    · rw [if_pos c0, Hp_some]; exact ⟨rfl, hq⟩
    · rw [if_neg c0, m_isSet_eq, up_slot (show (35 : Nat) ≠ 0 by decide), a0.1, bnd_s]
      by_cases c1 : 0 ≤ a1 ∧ a1 < shlI 1 (σ 0 6)
      · rw [if_pos c1, if_neg one0]
        by_cases c2 : a2 < 1
        · rw [if_pos c2, Hp_some]; exact ⟨rfl, hq⟩
        · rw [if_neg c2]
          by_cases c3 : 3 < a2
          · rw [if_pos c3, Hp_some]; exact ⟨rfl, hq⟩
          · rw [if_neg c3, m_isTick_eq, bnd_s]
            by_cases c4 : 0 ≤ a3 ∧ a3 < 96
            · rw [if_pos c4, if_neg one0, m_isTick_eq, bnd_s]
              by_cases c5 : 0 ≤ a4 ∧ a4 < 96
              · rw [if_pos c5, if_neg one0]
                by_cases c6 : a4 < a3
                · rw [if_pos c6, Hp_some]; exact ⟨rfl, hq⟩
                · rw [if_neg c6, m_isKnown_eq, up_slot (show (41 : Nat) ≠ 0 by decide), b0.1, bnd_s, if_neg (show ¬ (0 ≤ a6 ∧ a6 ≤ σ 30 5) by omega), if_pos rfl, Hp_some]
                  exact ⟨rfl, hq⟩
              · rw [if_neg c5, if_pos rfl, Hp_some]; exact ⟨rfl, hq⟩
            · rw [if_neg c4, if_pos rfl, Hp_some]; exact ⟨rfl, hq⟩
      · rw [if_neg c1, if_pos rfl, Hp_some]; exact ⟨rfl, hq⟩
  rw [m_X11_fed, isSet_eq, bnd_s]
  by_cases c1 : 0 ≤ a1 ∧ a1 < shlI 1 (σ 0 6)
  · simp only [if_pos c1, Int.reduceEq, if_false]
    by_cases c0 : a1 = 0
    · rw [if_pos c0, Hp_some]; exact hbad (by omega)
    · rw [if_neg c0]
      by_cases c2 : a2 < 1
      · rw [if_pos c2, Hp_some]; exact hbad (by omega)
      · rw [if_neg c2]
        by_cases c3 : a2 ≤ 3
        · rw [if_pos c3, isTick_eq, bnd_s]
          by_cases c4 : 0 ≤ a3 ∧ a3 < 96
          · simp only [if_pos c4, Int.reduceEq, if_false]
            rw [isTick_eq, bnd_s]
            by_cases c5 : 0 ≤ a4 ∧ a4 < 96
            · simp only [if_pos c5, Int.reduceEq, if_false]
              by_cases c6 : a4 < a3
              · rw [if_pos c6, Hp_some]; exact hbad (by omega)
              · rw [if_neg c6, isKnow_eq, bnd_s]
                by_cases c7 : 0 ≤ a6 ∧ a6 ≤ σ 30 5
                · simp only [if_pos c7, Int.reduceEq, if_false]
                  obtain ⟨t, rfl⟩ := Int.eq_ofNat_of_zero_le c4.1
                  obtain ⟨A, hA⟩ := Int.eq_ofNat_of_zero_le a0.2.1
                  obtain ⟨W, rfl⟩ := Int.eq_ofNat_of_zero_le (show 0 ≤ a2 by omega)
                  have hW : W = 1 ∨ W = 2 ∨ W = 3 := by omega
                  have hA8 : A ≤ 8 := by omega
                  have ht : t < 96 := by omega
                  have c1' := c1
                  rw [hA] at c1'
                  rw [Hp_bind]
                  refine Hp_mono (rows_sp k7 k1 c7 a0.2) ?_
                  rintro σ1 ⟨hK1, hR1⟩
                  have e06 : σ1 0 6 = (A : Int) := (hK1.1 0 6 rfl).trans hA
                  rw [Hp_bind]
                  refine Hp_mono (reach_c (c := (σ, a6, A, (fun _ => False), (¬ a5 = 0), t)) (sus := a1) (by' := a4) (drops := a5) k1 hA8 ht h1 hK1 (fun a ha => hR1 a (by simp only at ha; omega)) Iff.rfl e06) ?_
                  rintro σ2 ⟨hK2, hsame, hr2⟩
                  simp only at hK2 hr2
                  -- the reaches, and the suspects
                  have hS8 : ∀ i, tb a1 i = true → i < A := fun i hi => shl_lt hA8 c1' h1 hi
                  have hrq : Rq (fun i => if i < A then σ2 165 i else 0) := by
                    intro i hi
                    simp only
                    by_cases hiA : i < A
                    · rw [if_pos hiA]
                      refine ⟨(hr2 i hiA).1, ?_⟩
                      intro s hs
                      have := ((hr2 i hiA).2 s).mp hs
                      have := this.1.1
                      simp only at this
                      omega
                    · rw [if_neg hiA]
                      refine ⟨⟨by decide, by decide⟩, ?_⟩
                      intro s hs
                      rw [tb_zero] at hs
                      exact absurd hs (by decide)
                  rw [Hp_bind]
                  refine Hp_mono (choose_sp (S := fun i => tb a1 i) (W := W) (r := fun i => if i < A then σ2 165 i else 0) (sus := a1) hW hrq (fun i _ => Iff.rfl) (fun i hi hSi => by
                    show σ2 165 i = if i < A then σ2 165 i else 0
                    rw [if_pos (hS8 i hSi)])) ?_
                  rintro ⟨y, σ3⟩ ⟨g1, w3, g2, g3, g4⟩
                  simp only at g1 w3 g2 g3 g4
                  rw [Hp_some]
                  have hPP := PP8 (S := fun i => tb a1 i) hW
                  have hAm := Am_inv (S := fun i => tb a1 i) (W := W) (r := fun i => if i < A then σ2 165 i else 0) (PP (fun i => tb a1 i) W 8) hPP.1
                  have w03 : Wr ([(36, 37), (97, 104), (106, 117), (154, 154), (156, 163), (165, 169)], [(30, 6), (164, 3)]) σ σ3 := Wr_tr (Wr_sb hK2.1 rfl) (Wr_sb w3 rfl)
                  have w04 : Wr ([(36, 37), (97, 104), (106, 117), (154, 154), (156, 163), (165, 169)], [(30, 6), (164, 3), (170, 0)]) σ (up σ3 170 0 0) := Wr_up (Wr_sb w03 rfl) rfl
                  have t4 : iTown (up σ3 170 0 0) := keep dep_iTown w04 (by decide +kernel) k1
                  have ag4 : iAg (up σ3 170 0 0) := keep dep_iAg w04 (by decide +kernel) k6
                  have b4 : iBook (up σ3 170 0 0) := keep dep_iBook w04 (by decide +kernel) k7
                  have cn4 : iCan (up σ3 170 0 0) := keep dep_iCan w04 (by decide +kernel) k8
                  have g06 : σ3 170 35 = σ 0 6 := (w03 170 35 rfl).trans a0.1
                  have g41 : σ3 170 41 = σ 30 5 := (w03 170 41 rfl).trans b0.1
                  have e305 : up σ3 170 0 0 30 5 = σ 30 5 := by rw [up_cell (by decide)]; exact w03 30 5 rfl
                  show Hp (m_X12_fed a1 (W : Int) (t : Int) a4 a5 a6 σ3) (fun q => q.1 = y ∧ Inv q.2)
                  rw [m_X12_fed, pt_s, bnd_s, if_neg (by omega), m_isSet_eq, up_slot (show (35 : Nat) ≠ 0 by decide), g06, bnd_s, if_pos c1, if_neg one0, if_neg c2, if_neg (by omega), m_isTick_eq, bnd_s, if_pos c4, if_neg one0, m_isTick_eq, bnd_s, if_pos c5, if_neg one0, if_neg c6, m_isKnown_eq, up_slot (show (41 : Nat) ≠ 0 by decide), g41, bnd_s, if_pos c7, if_neg one0, Hp_bind]
                  refine Hp_mono (goes_sp2 (n := a6) t4 ag4 b4 cn4 (by omega)) ?_
                  rintro τ ⟨hG, hCt⟩
                  have hv : vw (up σ3 170 0 0) a6 = vw σ a6 := by
                    refine vw_app (by omega) ?_ ?_
                    · intro k j hk
                      rcases hk with q | q | q | ⟨q, q' | q'⟩
                      · subst q; exact w04 _ j rfl
                      · subst q; exact w04 _ j rfl
                      · subst q; exact w04 _ j rfl
                      · subst q; subst q'; exact w04 _ _ rfl
                      · subst q; subst q'; exact w04 _ _ rfl
                    · intro j _
                      exact ⟨w04 195 j rfl, w04 196 j rfl, w04 197 j rfl, w04 198 j rfl, w04 199 j rfl⟩
                  have hMC : ∀ Sf : Nat → Prop, MC (σ, a6, A, Sf, (¬ a5 = 0), t) τ := by
                    intro Sf
                    refine ⟨?_, ?_, ?_⟩
                    · intro k j hk
                      simp only
                      rcases hk with q | q | q | ⟨q, q' | q'⟩
                      · subst q; rw [hG.1 _ _ rfl]; exact w04 _ _ rfl
                      · subst q; rw [hG.1 _ _ rfl]; exact w04 _ _ rfl
                      · subst q; rw [hG.1 _ _ rfl]; exact w04 _ _ rfl
                      · subst q; subst q'; rw [hG.1 _ _ rfl]; exact w04 _ _ rfl
                      · subst q; subst q'; rw [hG.1 _ _ rfl]; exact w04 _ _ rfl
                    · rw [hG.1 170 35 rfl, w04 170 35 rfl, a0.1]; exact hA
                    · intro a ha
                      have ha' : a < A := ha
                      have := hG.2.2 a (by rw [w04 170 35 rfl, a0.1]; omega)
                      exact ⟨fun d hd => Bb_cg (this.1 d hd) (sgtd_cg hv a d), fun d s hd hs => Bb_cg (this.2 d s hd hs) (can_cg hv a d s)⟩
                  rw [Hp_bind]
                  refine Hp_mono (reach_m (c := (σ, a6, A, (fun _ => False), (¬ a5 = 0), t)) (S := fun i => tb a1 i) (r := fun i => if i < A then σ2 165 i else 0) (sus := a1) (by' := a4) (drops := a5) k1 hA8 ht h1 hMC Iff.rfl (fun i _ => Iff.rfl) (fun i _ hSi => hS8 i hSi) (fun i hi => by simp only at hi ⊢; rw [if_pos hi]; exact hr2 i hi)) ?_
                  rintro ⟨sz, τ1⟩ ⟨q1, w5, q2⟩
                  simp only at q1 w5 q2
                  subst q1
                  obtain ⟨al, o1, al1⟩ := all_sp (S := fun i => tb a1 i) hW
                  simp only
                  rw [o1, bnd_s, al1, Hp_bind]
                  refine Hp_mono (best_m (S := fun i => tb a1 i) hW hrq q2) ?_
                  rintro ⟨fi, τ2⟩ ⟨q3, w6⟩
                  simp only at q3 w6
                  subst q3
                  simp only
                  rw [pt_s, bnd_s, Hp_bind]
                  have q2' : RwM (fun i => tb a1 i) (fun i => if i < A then σ2 165 i else 0) (up τ2 170 82 (W : Int)) := by
                    intro i hi hSi
                    rw [up_cell (by decide), up_cell (by decide), w6 231 _ rfl, w6 230 _ rfl]
                    exact q2 i hi hSi
                  refine Hp_mono (worst_m (S := fun i => tb a1 i) hW hrq hAm.2 q2') ?_
                  rintro ⟨x48, τ3⟩ ⟨q4, w7, q5, q6⟩
                  simp only at q4 w7 q5 q6
                  have q2'' : RwM (fun i => tb a1 i) (fun i => if i < A then σ2 165 i else 0) τ3 := by
                    intro i hi hSi
                    rw [w7 231 _ rfl, w7 230 _ rfl]
                    exact q2' i hi hSi
                  obtain ⟨τ4, τ5, τ6, o4, o5, o6, w8, q7, q8⟩ := keep_m (S := fun i => tb a1 i) (W := W) q2'' q5 q6
                  simp only
                  rw [o4, bnd_s, o5, bnd_s, o6, bnd_s, Hp_some]
                  have wm : Wr ([(226, 233)], [(170, 82)]) τ τ6 := Wr_tr (Wr_sb w5 rfl) (Wr_tr (Wr_sb w6 rfl) (Wr_tr (Wr_up Wr_rf rfl) (Wr_tr (Wr_sb w7 rfl) (Wr_sb w8 rfl))))
                  have wF : Wr ([(36, 37), (97, 104), (106, 117), (154, 154), (156, 163), (165, 169), (193, 194), (200, 200), (221, 233)], [(30, 6), (164, 3), (170, 0), (170, 74), (170, 82)]) σ τ6 := Wr_tr (Wr_sb w04 rfl) (Wr_tr (Wr_sb hG.1 rfl) (Wr_sb wm rfl))
                  have f82 : τ6 170 82 = (W : Int) := by rw [w8 170 82 rfl, w7 170 82 rfl, up_eq]
                  have f164 : τ6 164 3 = (W : Int) := by
                    rw [wm 164 3 rfl, hG.1 164 3 rfl, up_cell (by decide)]; exact g2
                  have f166 : ∀ i, τ6 166 i = σ3 166 i := fun i => by rw [wm 166 i rfl, hG.1 166 i rfl, up_cell (by decide)]
                  have f167 : ∀ i, τ6 167 i = σ3 167 i := fun i => by rw [wm 167 i rfl, hG.1 167 i rfl, up_cell (by decide)]
                  show x48 = y ∧ Inv τ6
                  refine ⟨?_, ?_⟩
                  · rw [q4, g1]; exact hAm.1.symm
                  · refine inv_step (L := ([(36, 37), (97, 104), (106, 117), (154, 154), (156, 163), (165, 169), (193, 194), (200, 200), (221, 233)], [(30, 6), (164, 3), (170, 0), (170, 74), (170, 82)])) hI ?_ (Or.inl (by decide +kernel)) (Or.inl (by decide +kernel)) (Or.inl (by decide +kernel)) (Or.inl (by decide +kernel)) (Or.inl (by decide +kernel)) (Or.inl (by decide +kernel)) (Or.inl (by decide +kernel)) (Or.inr ?_) (Or.inr ?_) (Or.inl (by decide +kernel)) (Or.inl (by decide +kernel))
                    · exact wF
                    · exact keep dep_iCan wm (by decide +kernel) hCt
                    · refine ⟨?_, Or.inr ⟨by omega, by omega, ?_, ?_⟩⟩
                      · intro i hi hle
                        left
                        rw [wF 0 6 rfl] at hle
                        rw [q7 i hi]
                        unfold dgI
                        rw [if_neg]
                        intro q
                        have := hS8 i q
                        omega
                      · intro i hi
                        rw [q7 i hi, f166, g3 i hi]
                      · intro w hw
                        rw [f164] at hw
                        rw [q8 w (by omega), f167, g4 w (by omega)]
                · simp only [if_neg c7, if_true, Hp_some]; exact hbad (by omega)
            · simp only [if_neg c5, if_true, Hp_some]; exact hbad (by omega)
          · simp only [if_neg c4, if_true, Hp_some]; exact hbad (by omega)
        · rw [if_neg c3, Hp_some]; exact hbad (by omega)
  · simp only [if_neg c1, if_true, Hp_some]; exact hbad (by omega)
