/-! goes, canBe, fits -/
theorem m_can {σ τ0 : St} {n : Int} {a : Nat} (ha : a < 8) (hF : ∀ d s : Nat, d < 96 → s < 10 → Bb (τ0 222 (10 * d + s)) (Fth σ n a d s)) (hB : ∀ d s : Nat, d < 96 → s < 10 → Bb (τ0 223 (10 * d + s)) (Bck σ n a (95 - d) s)) :
    Hp (lp (fun z => m_X12_goesOne_L676 a z.1 z.2) (0, τ0)) (fun τ => Wr ([(221, 221)], []) τ0 τ ∧ (∀ b i : Nat, b ≠ a → i < 960 → τ 221 (960 * b + i) = τ0 221 (960 * b + i)) ∧ ∀ d s : Nat, d < 96 → s < 10 → Bb (τ 221 (960 * a + 10 * d + s)) (Can σ n a d s)) := by
  refine Hp_up (fun j (z : Int × St) => z.1 = (j : Int) ∧ Wr ([(221, 221)], []) τ0 z.2 ∧ (∀ b i : Nat, b ≠ a → i < 960 → z.2 221 (960 * b + i) = τ0 221 (960 * b + i)) ∧ ∀ d s : Nat, 10 * d + s < j → s < 10 → Bb (z.2 221 (960 * a + 10 * d + s)) (Can σ n a d s)) 0 960 (by omega) (by omega) ⟨rfl, Wr_rf, fun _ _ _ _ => rfl, fun d s h => by omega⟩ ?_ ?_
  · rintro j ⟨x, τ⟩ - hj ⟨e1, e2, e3, e4⟩
    simp only at e1 e2 e3 e4
    subst e1
    obtain ⟨d, s, hds, hs⟩ : ∃ d s, j = 10 * d + s ∧ s < 10 := ⟨j / 10, j % 10, by omega, by omega⟩
    have f222 : τ 222 j = τ0 222 (10 * d + s) := by rw [e2 222 _ rfl, hds]
    have f223 : τ 223 j = τ0 223 (10 * d + s) := by rw [e2 223 _ rfl, hds]
    have hd : d < 96 := by omega
    have b1 := hF d s hd hs
    have b2 := hB d s hd hs
    have put : ∀ v : Int, Bb v (Can σ n a d s) → Hp ((wt τ 221 7680 (wr (wr (960 * (a : Int)) + (j : Int))) v).bind fun σ1 => some (Sum.inl (wr ((j : Int) + 1), σ1))) (Lq (fun τ => Wr ([(221, 221)], []) τ0 τ ∧ (∀ b i : Nat, b ≠ a → i < 960 → τ 221 (960 * b + i) = τ0 221 (960 * b + i)) ∧ ∀ d s : Nat, d < 96 → s < 10 → Bb (τ 221 (960 * a + 10 * d + s)) (Can σ n a d s)) (fun (z : Int × St) => z.1 = ((j + 1 : Nat) : Int) ∧ Wr ([(221, 221)], []) τ0 z.2 ∧ (∀ b i : Nat, b ≠ a → i < 960 → z.2 221 (960 * b + i) = τ0 221 (960 * b + i)) ∧ ∀ d s : Nat, 10 * d + s < j + 1 → s < 10 → Bb (z.2 221 (960 * a + 10 * d + s)) (Can σ n a d s))) := by
      intro v hv
      rw [ix960 (by omega) (by omega), Hp_bind, Hp_wt]
      refine ⟨by omega, ?_⟩
      rw [Int.toNat_natCast, Hp_some, Lq_inl, nx1 (by omega)]
      refine ⟨rfl, Wr_up e2 rfl, ?_, ?_⟩
      · intro b i hb hi
        simp only
        rw [up_slot (by omega)]
        exact e3 b i hb hi
      · intro d' s' h hs'
        simp only
        by_cases hq : 960 * a + 10 * d' + s' = 960 * a + j
        · have q1 : d' = d := by omega
          have q2 : s' = s := by omega
          subst q1; subst q2
          rw [hq, up_eq]; exact hv
        · rw [up_slot hq]; exact e4 d' s' (by omega) hs'
    simp only [m_X12_goesOne_L676]
    rw [if_neg (by omega), rd_ok (by omega) (by omega), bnd_s, Int.toNat_natCast, f222]
    by_cases h1 : τ0 222 (10 * d + s) = 0
    · rw [if_pos h1]
      exact put 0 (Bb_0 (fun q => (Bb_ne b1).mp h1 q.1))
    · rw [if_neg h1, rd_ok (by omega) (by omega), bnd_s, Int.toNat_natCast, f223]
      by_cases h2 : τ0 223 (10 * d + s) = 0
      · rw [if_pos h2]
        exact put 0 (Bb_0 (fun q => (Bb_ne b2).mp h2 q.2))
      · rw [if_neg h2]
        exact put 1 (Bb_1 ⟨b1.2.mp (by have := b1.1; omega), b2.2.mp (by have := b2.1; omega)⟩)
  · rintro ⟨x, τ⟩ ⟨e1, e2, e3, e4⟩
    simp only at e1 e2 e3 e4
    subst e1
    simp only [m_X12_goesOne_L676]
    rw [if_pos (by omega), Hp_some, Lq_inr]
    exact ⟨e2, e3, fun d s hd hs => e4 d s (by omega) hs⟩
/-- what goes leaves of agent a -/
def GoA (σ τ : St) (n : Int) (a : Nat) : Prop := (∀ d : Nat, d < 96 → Bb (τ 225 (96 * a + d)) (Sgtd σ n a d)) ∧ ∀ d s : Nat, d < 96 → s < 10 → Bb (τ 221 (960 * a + 10 * d + s)) (Can σ n a d s)
theorem goesOne_sp {σ τ0 : St} {n : Int} {a : Nat} (hB : iBook σ) (hT : iTown σ) (hn : 0 ≤ n ∧ n ≤ σ 30 5) (ha : a < 8) (hw : Wr ([(193, 194), (200, 200), (221, 225)], [(170, 74)]) σ τ0) (hP : PostP σ τ0 n) (hD : isDir (Edge σ (σ 1 5)) (fun a b => τ0 193 (10 * a + b))) (hz : ∀ d : Nat, d < 96 → τ0 225 (96 * a + d) = 0) :
    Hp (m_X12_goesOne a n τ0) (fun τ => Wr ([(221, 225)], []) τ0 τ ∧ GoA σ τ n a ∧ (∀ b d : Nat, b ≠ a → d < 96 → τ 225 (96 * b + d) = τ0 225 (96 * b + d)) ∧ ∀ b i : Nat, b ≠ a → i < 960 → τ 221 (960 * b + i) = τ0 221 (960 * b + i)) := by
  obtain ⟨τ1, o1, w1, m1⟩ := may_a (σ := σ) (τ0 := τ0) (n := n) (hw 170 30 rfl) hP
  have hw1 : Wr ([(193, 194), (200, 200), (221, 225)], [(170, 74)]) σ τ1 := Wr_tr hw (Wr_sb w1 rfl)
  obtain ⟨τ2, o2, w2, p1, p2, p3⟩ := may_b (σ := σ) (τ0 := τ1) (n := n) (a := a) hB hT hn ha (by
    intro c j hc
    rcases hc with q | q | q | q | ⟨q, q'⟩
    · subst q; exact hw1 _ _ rfl
    · subst q; exact hw1 _ _ rfl
    · subst q; exact hw1 _ _ rfl
    · subst q; exact hw1 _ _ rfl
    · subst q; subst q'; exact hw1 _ _ rfl) (fun d hd => by rw [w1 225 _ rfl]; exact hz d hd) m1
  have hw2 : Wr ([(193, 194), (200, 200), (221, 225)], [(170, 74)]) σ τ2 := Wr_tr hw1 (Wr_sb w2 rfl)
  have lk : ∀ {τ : St}, Wr ([(193, 194), (200, 200), (221, 225)], [(170, 74)]) σ τ → Lk σ τ := by
    intro τ hw c j hc
    rcases hc with q | q | q | ⟨q, q' | q'⟩
    · subst q; exact hw _ _ rfl
    · subst q; exact hw _ _ rfl
    · subst q; exact hw _ _ rfl
    · subst q; subst q'; exact hw _ _ rfl
    · subst q; subst q'; exact hw _ _ rfl
  have dir2 : (fun a b => τ2 193 (10 * a + b)) = (fun a b => τ0 193 (10 * a + b)) := by
    funext x y; rw [w2 193 _ rfl, w1 193 _ rfl]
  obtain ⟨τ3, o3, w3, q3⟩ := m_forth (σ := σ) (τ0 := τ2) (n := n) (a := a) hT (lk hw2) ha (by rw [dir2]; exact hD) p2 p3
  have hw3 : Wr ([(193, 194), (200, 200), (221, 225)], [(170, 74)]) σ τ3 := Wr_tr hw2 (Wr_sb w3 rfl)
  obtain ⟨τ4, o4, w4, q4⟩ := m_back (σ := σ) (τ0 := τ3) (n := n) (a := a) hT (lk hw3) ha (fun d hd => by rw [w3 225 _ rfl]; exact p2 d hd) (fun d s hd hs => by rw [w3 224 _ rfl]; exact p3 d s hd hs)
  obtain ⟨τ5, o5, w5, q5, q6⟩ := m_can (σ := σ) (τ0 := τ4) (n := n) (a := a) ha (fun d s hd hs => by rw [w4 222 _ rfl]; exact q3 d s hd hs) q4
  have e : m_X12_goesOne a n τ0 = some τ5 := by
    rw [m_X12_goesOne, o1, bnd_s, o2, bnd_s, o3, bnd_s, o4, bnd_s, o5, bnd_s]
  have s225 : ∀ i, τ5 225 i = τ2 225 i := fun i => by rw [w5 225 _ rfl, w4 225 _ rfl, w3 225 _ rfl]
  refine ⟨τ5, e, ?_, ⟨fun d hd => by rw [s225]; exact p2 d hd, q6⟩, ?_, ?_⟩
  · exact Wr_tr (Wr_sb w1 rfl) (Wr_tr (Wr_sb w2 rfl) (Wr_tr (Wr_sb w3 rfl) (Wr_tr (Wr_sb w4 rfl) (Wr_sb w5 rfl))))
  · intro b d hb hd
    rw [s225, p1 b d hb hd, w1 225 _ rfl]
  · intro b i hb hi
    rw [q5 b i hb hi, w4 221 _ rfl, w3 221 _ rfl, w2 221 _ rfl, w1 221 _ rfl]
theorem q_h (j : Int) (τ : St) : m_X12_goes_L25 j τ = if (768 : Int) ≤ j then some (.inr τ) else (wt τ 225 768 j 0).bind fun τ' => some (.inl (wr (j + 1), τ')) := by rw [m_X12_goes_L25]
/-- what goes leaves -/
def GoP (σ τ : St) (n : Int) : Prop := Wr ([(193, 194), (200, 200), (221, 225)], [(170, 74)]) σ τ ∧ τ 170 74 = n ∧ ∀ a : Nat, (a : Int) < σ 170 35 → GoA σ τ n a
/-- Can looks at no more than vw keeps -/
theorem strk_vw (σ : St) (n : Int) (f : Nat) : Strk (vw σ n) n f ↔ Strk σ n f := by
  unfold Strk
  constructor
  · rintro ⟨k, h1, h2, h3, h4⟩
    refine ⟨k, h1, h2, ?_, ?_⟩
    · simpa [vw, h2] using h3
    · simpa [vw, h2] using h4
  · rintro ⟨k, h1, h2, h3, h4⟩
    refine ⟨k, h1, h2, ?_, ?_⟩
    · simpa [vw, h2] using h3
    · simpa [vw, h2] using h4
theorem wtch_vw (σ : St) (n : Int) (s t : Nat) : Wtch (vw σ n) n s t ↔ Wtch σ n s t := by
  unfold Wtch
  simp only [strk_vw]
  constructor
  · rintro ⟨k, h1, h2, h3, h4, h5, h6⟩
    exact ⟨k, h1, by simpa [vw, h1] using h2, h3, by simpa [vw, h1] using h4, by simpa [vw, h1] using h5, by simpa [vw, h1] using h6⟩
  · rintro ⟨k, h1, h2, h3, h4, h5, h6⟩
    exact ⟨k, h1, by simpa [vw, h1] using h2, h3, by simpa [vw, h1] using h4, by simpa [vw, h1] using h5, by simpa [vw, h1] using h6⟩
theorem sgt_vw (σ : St) (n : Int) (a t k : Nat) : Sgt (vw σ n) n a t k ↔ Sgt σ n a t k := by
  unfold Sgt
  simp only [strk_vw]
  constructor
  · rintro ⟨h1, h2, h3, h4, h5⟩
    exact ⟨h1, by simpa [vw, h1] using h2, by simpa [vw, h1] using h3, h4, by simpa [vw, h1] using h5⟩
  · rintro ⟨h1, h2, h3, h4, h5⟩
    exact ⟨h1, by simpa [vw, h1] using h2, by simpa [vw, h1] using h3, h4, by simpa [vw, h1] using h5⟩
theorem sgtd_vw (σ : St) (n : Int) (a t : Nat) : Sgtd (vw σ n) n a t ↔ Sgtd σ n a t := by
  unfold Sgtd
  simp only [sgt_vw]
theorem may_vw (σ : St) (n : Int) (a t s : Nat) : May (vw σ n) n a t s ↔ May σ n a t s := by
  unfold May
  simp only [sgtd_vw, wtch_vw, sgt_vw]
  have e : vw σ n 170 30 = σ 170 30 := by simp [vw]
  rw [e]
  constructor
  · rintro ⟨h1, (⟨h2, h3⟩ | h2)⟩
    · refine ⟨h1, Or.inl ⟨h2, fun k hk => ?_⟩⟩
      have := h3 k hk
      simpa [vw, hk.1] using this
    · exact ⟨h1, Or.inr h2⟩
  · rintro ⟨h1, (⟨h2, h3⟩ | h2)⟩
    · refine ⟨h1, Or.inl ⟨h2, fun k hk => ?_⟩⟩
      have := h3 k hk
      simpa [vw, hk.1] using this
    · exact ⟨h1, Or.inr h2⟩
theorem unsn_vw (σ : St) (n : Int) (a t l : Nat) : Unsn (vw σ n) n a t l ↔ Unsn σ n a t l := by
  unfold Unsn
  simp only [sgtd_vw]
theorem way_vw (σ : St) (n : Int) (s o l : Nat) : Way (vw σ n) s o l ↔ Way σ s o l := by
  unfold Way
  have e1 : vw σ n 170 31 = σ 170 31 := by simp [vw]
  have e2 : ∀ w, vw σ n 187 w = σ 187 w := fun w => by simp [vw]
  have e3 : ∀ w, vw σ n 188 w = σ 188 w := fun w => by simp [vw]
  have e4 : ∀ w, vw σ n 189 w = σ 189 w := fun w => by simp [vw]
  simp only [e1, e2, e3, e4]
theorem fth_vw (σ : St) (n : Int) (a : Nat) : ∀ t s : Nat, Fth (vw σ n) n a t s ↔ Fth σ n a t s := by
  intro t
  induction t using Nat.strongRecOn with
  | ind t ih =>
    intro s
    cases t with
    | zero => rw [Fth, Fth, may_vw]
    | succ t =>
      rw [Fth, Fth, may_vw, ih t (by omega)]
      constructor
      · rintro ⟨q1, (q2 | ⟨o, l, h, q3, q4, q5⟩)⟩
        · exact ⟨q1, Or.inl q2⟩
        · exact ⟨q1, Or.inr ⟨o, l, h, (way_vw ..).mp q3, (unsn_vw ..).mp q4, (ih _ (by omega) o).mp q5⟩⟩
      · rintro ⟨q1, (q2 | ⟨o, l, h, q3, q4, q5⟩)⟩
        · exact ⟨q1, Or.inl q2⟩
        · exact ⟨q1, Or.inr ⟨o, l, h, (way_vw ..).mpr q3, (unsn_vw ..).mpr q4, (ih _ (by omega) o).mpr q5⟩⟩
theorem bck_vw (σ : St) (n : Int) (a : Nat) : ∀ t s : Nat, Bck (vw σ n) n a t s ↔ Bck σ n a t s := by
  intro t
  induction t using Nat.strongRecOn with
  | ind t ih =>
    intro s
    cases t with
    | zero => rw [Bck, Bck, may_vw]
    | succ t =>
      rw [Bck, Bck, may_vw, ih t (by omega)]
      constructor
      · rintro ⟨q1, (q2 | ⟨o, l, h, q3, q4, q5⟩)⟩
        · exact ⟨q1, Or.inl q2⟩
        · refine ⟨q1, Or.inr ⟨o, l, h, (way_vw ..).mp q3, (unsn_vw ..).mp q4, ?_⟩⟩
          rcases q5 with q5 | ⟨h2, q5⟩
          · exact Or.inl q5
          · exact Or.inr ⟨h2, (ih _ (by omega) o).mp q5⟩
      · rintro ⟨q1, (q2 | ⟨o, l, h, q3, q4, q5⟩)⟩
        · exact ⟨q1, Or.inl q2⟩
        · refine ⟨q1, Or.inr ⟨o, l, h, (way_vw ..).mpr q3, (unsn_vw ..).mpr q4, ?_⟩⟩
          rcases q5 with q5 | ⟨h2, q5⟩
          · exact Or.inl q5
          · exact Or.inr ⟨h2, (ih _ (by omega) o).mpr q5⟩
theorem can_vw (σ : St) (n : Int) (a t s : Nat) : Can (vw σ n) n a t s ↔ Can σ n a t s := by
  unfold Can
  rw [fth_vw, bck_vw]
theorem goes_sp {σ : St} {n : Int} (hI : Inv σ) (hn : 0 ≤ n ∧ n ≤ σ 30 5) : Hp (m_X12_goes n σ) (fun τ => GoP σ τ n ∧ Inv τ) := by
  have hI2 := hI
  obtain ⟨k1, k2, k3, k4, k5, k6, k7, k8, k9, k10, k11⟩ := hI2
  have a0 := k6.1
  have b0 := k7.1
  rw [m_X12_goes]
  by_cases hc : σ 170 74 = n
  · rw [if_pos hc, Hp_some]
    refine ⟨⟨Wr_rf, hc, ?_⟩, hI⟩
    rcases k8 with q | ⟨q1, q2, q3⟩
    · omega
    · rw [hc] at q2 q3
      intro a ha
      refine ⟨fun d hd => ?_, fun d s hd hs => ?_⟩
      · have := q2 a d ha hd
        rw [sgtd_vw] at this
        exact this
      · have := q3 a d s ha hd hs
        rw [can_vw] at this
        exact this
  · rw [if_neg hc, pt_s, bnd_s]
    have hw0 : Wr ([], [(170, 74)]) σ (up σ 170 74 n) := Wr_up Wr_rf rfl
    have hT0 : iTown (up σ 170 74 n) := keep dep_iTown hw0 (by decide +kernel) k1
    have hB0 : iBook (up σ 170 74 n) := keep dep_iBook hw0 (by decide +kernel) k7
    have e5 : up σ 170 74 n 30 5 = σ 30 5 := up_cell (by decide)
    obtain ⟨τ1, o1, m1, m2, m3⟩ := meas_sp hT0
    have hw1 : Wr ([(193, 194)], [(170, 74)]) σ τ1 := Wr_tr (Wr_sb hw0 rfl) (Wr_sb m1 rfl)
    have hT1 : iTown τ1 := keep dep_iTown hw1 (by decide +kernel) k1
    have hB1 : iBook τ1 := keep dep_iBook hw1 (by decide +kernel) k7
    have e51 : τ1 30 5 = σ 30 5 := hw1 30 5 rfl
    obtain ⟨τ2, o2, w2, p2⟩ := posts_sp (σ := τ1) (n := n) hB1 hT1 (by omega)
    have hw2 : Wr ([(193, 194), (200, 200), (221, 225)], [(170, 74)]) σ τ2 := Wr_tr (Wr_sb hw1 rfl) (Wr_sb w2 rfl)
    obtain ⟨τ3, o3, w3, z3⟩ := fill_sp (f := fun a => m_X12_goes_L25 a.1 a.2) (σ := τ2) (c := 225) (N := 768) (NI := 768) (v := 0) (by omega) (by omega) q_h
    have hw3 : Wr ([(193, 194), (200, 200), (221, 225)], [(170, 74)]) σ τ3 := Wr_tr hw2 (Wr_sb w3 rfl)
    rw [o1, bnd_s, o2, bnd_s, o3, bnd_s, Hp_bind]
    simp only [Hp_some]
    have hst : ∀ k, Strk τ1 n k ↔ Strk σ n k := fun k => strk_cg (funext fun i => hw1 195 i rfl) (funext fun i => hw1 196 i rfl) n k
    have hP3 : PostP σ τ3 n := by
      intro s t hs ht
      rw [w3 200 _ rfl]
      refine Bb_cg (p2 s t hs ht) ?_
      unfold Wtch
      simp only [hst]
      rw [show τ1 195 = σ 195 from funext fun i => hw1 195 i rfl, show τ1 197 = σ 197 from funext fun i => hw1 197 i rfl, show τ1 198 = σ 198 from funext fun i => hw1 198 i rfl, show τ1 199 = σ 199 from funext fun i => hw1 199 i rfl]
    have hE : Edge (up σ 170 74 n) (up σ 170 74 n 1 5) = Edge σ (σ 1 5) := by
      funext x y l
      unfold Edge
      rw [up_cell (show 1 ≠ 170 by decide), up_ne 2 (by decide), up_ne 3 (by decide), up_ne 4 (by decide)]
    have hD3 : isDir (Edge σ (σ 1 5)) (fun a b => τ3 193 (10 * a + b)) := by
      rw [hE] at m3
      have : (fun a b => τ3 193 (10 * a + b)) = (fun a b => τ1 193 (10 * a + b)) := by
        funext x y; rw [w3 193 _ rfl, w2 193 _ rfl]
      rw [this]; exact m3
    refine Hp_up (fun j (z : Int × St) => z.1 = (j : Int) ∧ Wr ([(221, 225)], []) τ3 z.2 ∧ (∀ a : Nat, a < j → GoA σ z.2 n a) ∧ ∀ a d : Nat, j ≤ a → a < 8 → d < 96 → z.2 225 (96 * a + d) = 0) 0 (σ 170 35).toNat (by omega) (by omega) ⟨rfl, Wr_rf, fun a h => by omega, fun a d _ ha hd => z3 _ (by omega)⟩ ?_ ?_
    · rintro j ⟨x, τ⟩ - hj ⟨e1, e2, e3, e4⟩
      simp only at e1 e2 e3 e4
      subst e1
      have f35 : τ 170 35 = σ 170 35 := (e2 170 35 rfl).trans (hw3 170 35 rfl)
      simp only [m_X12_goes_L47]
      rw [if_neg (by omega), Hp_bind]
      refine Hp_mono (goesOne_sp (σ := σ) (τ0 := τ) (n := n) (a := j) k7 k1 hn (by omega) (Wr_tr hw3 (Wr_sb e2 rfl)) ?_ ?_ (fun d hd => e4 j d (by omega) (by omega) hd)) ?_
      · intro s t hs ht
        rw [e2 200 _ rfl]; exact hP3 s t hs ht
      · have : (fun a b => τ 193 (10 * a + b)) = (fun a b => τ3 193 (10 * a + b)) := by
          funext x y; exact e2 193 _ rfl
        rw [this]; exact hD3
      · rintro τ' ⟨w, g1, g2, g3⟩
        rw [Hp_some, Lq_inl, nx1 (by omega)]
        refine ⟨rfl, Wr_tr e2 w, ?_, ?_⟩
        · intro b hb
          by_cases hbj : b = j
          · subst hbj; exact g1
          · have := e3 b (by omega)
            refine ⟨fun d hd => ?_, fun d s hd hs => ?_⟩
            · simp only
              rw [g2 b d hbj hd]; exact this.1 d hd
            · simp only
              rw [show 960 * b + 10 * d + s = 960 * b + (10 * d + s) by omega, g3 b _ hbj (by omega), show 960 * b + (10 * d + s) = 960 * b + 10 * d + s by omega]
              exact this.2 d s hd hs
        · intro b d hb hb8 hd
          simp only
          rw [g2 b d (by omega) hd]
          exact e4 b d (by omega) hb8 hd
    · rintro ⟨x, τ⟩ ⟨e1, e2, e3, e4⟩
      simp only at e1 e2 e3 e4
      subst e1
      have hwF : Wr ([(193, 194), (200, 200), (221, 225)], [(170, 74)]) σ τ := Wr_tr hw3 (Wr_sb e2 rfl)
      have f35 : τ 170 35 = σ 170 35 := hwF 170 35 rfl
      have f74 : τ 170 74 = n := by
        rw [e2 170 74 rfl, w3 170 74 rfl, w2 170 74 rfl, m1 170 74 rfl, up_eq]
      simp only [m_X12_goes_L47]
      rw [if_pos (by omega), Hp_some, Lq_inr]
      have hG : GoP σ τ n := ⟨hwF, f74, fun a ha => e3 a (by omega)⟩
      refine ⟨hG, ?_⟩
      refine inv_step (L := ([(193, 194), (200, 200), (221, 225)], [(170, 74)])) hI ?_ (Or.inl (by decide +kernel)) (Or.inl (by decide +kernel)) (Or.inl (by decide +kernel)) (Or.inl (by decide +kernel)) (Or.inl (by decide +kernel)) (Or.inl (by decide +kernel)) (Or.inl (by decide +kernel)) (Or.inr ?_) (Or.inl (by decide +kernel)) (Or.inl (by decide +kernel)) (Or.inl (by decide +kernel))
      · exact hwF
      · right
        rw [f74]
        have hv : vw τ n = vw σ n := by
          refine vw_app (by omega) ?_ ?_
          · intro k j hk
            rcases hk with q | q | q | ⟨q, q' | q'⟩
            · subst q; exact hwF _ j rfl
            · subst q; exact hwF _ j rfl
            · subst q; exact hwF _ j rfl
            · subst q; subst q'; exact hwF _ _ rfl
            · subst q; subst q'; exact hwF _ _ rfl
          · intro j _
            exact ⟨hwF 195 j rfl, hwF 196 j rfl, hwF 197 j rfl, hwF 198 j rfl, hwF 199 j rfl⟩
        rw [hv, f35, hwF 170 41 rfl]
        refine ⟨by omega, ?_, ?_⟩
        · intro a t ha ht
          have := (hG.2.2 a ha).1 t ht
          rw [sgtd_vw]
          exact this
        · intro a t s ha ht hs
          have := (hG.2.2 a ha).2 t s ht hs
          rw [can_vw]
          exact this
theorem can_cg {σ σ' : St} {n : Int} (h : vw σ' n = vw σ n) (a t s : Nat) : Can σ' n a t s ↔ Can σ n a t s := by
  rw [← can_vw σ', ← can_vw σ, h]
theorem sgtd_cg {σ σ' : St} {n : Int} (h : vw σ' n = vw σ n) (a t : Nat) : Sgtd σ' n a t ↔ Sgtd σ n a t := by
  rw [← sgtd_vw σ', ← sgtd_vw σ, h]
theorem unsn_cg {σ σ' : St} {n : Int} (h : vw σ' n = vw σ n) (a t l : Nat) : Unsn σ' n a t l ↔ Unsn σ n a t l := by
  rw [← unsn_vw σ', ← unsn_vw σ, h]
theorem way_cg {σ σ' : St} {n : Int} (h : vw σ' n = vw σ n) (s o l : Nat) : Way σ' s o l ↔ Way σ s o l := by
  rw [← way_vw σ' n, ← way_vw σ n, h]
theorem inv_KN {σ τ : St} {n : Int} (hI : Inv σ) (h : KN σ τ n) : Inv τ := by
  refine inv_step (L := ([(36, 37), (97, 104), (106, 117), (154, 154), (156, 163), (165, 165)], [(30, 6)])) hI ?_ (Or.inl (by decide +kernel)) (Or.inl (by decide +kernel)) (Or.inl (by decide +kernel)) (Or.inl (by decide +kernel)) (Or.inl (by decide +kernel)) (Or.inl (by decide +kernel)) (Or.inl (by decide +kernel)) (Or.inl (by decide +kernel)) (Or.inl (by decide +kernel)) (Or.inl (by decide +kernel)) (Or.inl (by decide +kernel))
  exact h.1
theorem vw_KN {σ τ : St} {n x : Int} (hn : n ≤ σ 170 41) (h : KN σ τ n) : vw (up τ 170 0 x) n = vw σ n := by
  refine vw_app hn ?_ ?_
  · intro k j hk
    rcases hk with q | q | q | ⟨q, q' | q'⟩
    · subst q; rw [up_cell (by decide)]; exact h.1 _ j rfl
    · subst q; rw [up_cell (by decide)]; exact h.1 _ j rfl
    · subst q; rw [up_cell (by decide)]; exact h.1 _ j rfl
    · subst q; subst q'; rw [up_slot (by decide)]; exact h.1 _ _ rfl
    · subst q; subst q'; rw [up_slot (by decide)]; exact h.1 _ _ rfl
  · intro j _
    rw [up_cell (by decide), up_cell (by decide), up_cell (by decide), up_cell (by decide), up_cell (by decide)]
    exact ⟨h.1 195 j rfl, h.1 196 j rfl, h.1 197 j rfl, h.1 198 j rfl, h.1 199 j rfl⟩
/-- the checks ahead of canBe -/
theorem c_canBe : PS_canBe Inv := by
  intro σ a1 a2 a3 a4 hok hI h1 h2 h3 h4
  apply ps_of
  have hI2 := hI
  obtain ⟨k1, k2, k3, k4, k5, k6, k7, k8, k9, k10, k11⟩ := hI2
  have hq := inv_thr (x := 0) hI
  have t1 := k1.1
  have a0 := k6.1
  have b0 := k7.1
  have hbad : ¬ ((0 ≤ a1 ∧ a1 < σ 0 6) ∧ (0 ≤ a2 ∧ a2 < σ 1 4) ∧ (0 ≤ a3 ∧ a3 < 96) ∧ (0 ≤ a4 ∧ a4 ≤ σ 30 5)) → Hp (m_X12_canBe a1 a2 a3 a4 σ) (fun q => q.1 = -1 ∧ Inv q.2) := by
    intro hc
    simp only [m_X12_canBe, Hp_bind, Hp_pt, m_isAgent_eq, m_isSpot_eq, m_isTick_eq, m_isKnown_eq, Hp_some]
    simp (disch := decide) only [up_eq, up_cell, up_slot, Int.toNat_natCast, true_and, and_true, eq_self]
    rw [a0.1, t1.1, b0.1]
    by_cases c1 : 0 ≤ a1 ∧ a1 < σ 0 6
    · simp only [if_pos c1, Int.reduceEq, if_false]
      rw [bnd_s]
      by_cases c2 : 0 ≤ a2 ∧ a2 < σ 1 4
      · simp only [if_pos c2, Int.reduceEq, if_false]
        rw [bnd_s]
        by_cases c3 : 0 ≤ a3 ∧ a3 < 96
        · simp only [if_pos c3, Int.reduceEq, if_false]
          rw [bnd_s, if_neg (show ¬ (0 ≤ a4 ∧ a4 ≤ σ 30 5) by omega), if_pos rfl, Hp_some]
          exact ⟨rfl, hq⟩
        · simp only [if_neg c3, if_true, Hp_some]; exact ⟨by trivial, hq⟩
      · simp only [if_neg c2, if_true, Hp_some]; exact ⟨by trivial, hq⟩
    · simp only [if_neg c1, if_true, Hp_some]; exact ⟨by trivial, hq⟩
  rw [m_X11_canBe, isAgent_eq (by omega), bnd_s]
  by_cases c1 : 0 ≤ a1 ∧ a1 < σ 0 6
  · simp only [if_pos c1, Int.reduceEq, if_false]
    rw [hasSpot_eq (by omega), bnd_s]
    by_cases c2 : 0 ≤ a2 ∧ a2 < σ 1 4
    · simp only [if_pos c2, Int.reduceEq, if_false]
      rw [isTick_eq, bnd_s]
      by_cases c3 : 0 ≤ a3 ∧ a3 < 96
      · simp only [if_pos c3, Int.reduceEq, if_false]
        rw [isKnow_eq, bnd_s]
        by_cases c4 : 0 ≤ a4 ∧ a4 ≤ σ 30 5
        · simp only [if_pos c4, Int.reduceEq, if_false]
          obtain ⟨a, rfl⟩ := Int.eq_ofNat_of_zero_le c1.1
          obtain ⟨s, rfl⟩ := Int.eq_ofNat_of_zero_le c2.1
          obtain ⟨t, rfl⟩ := Int.eq_ofNat_of_zero_le c3.1
          rw [Hp_bind]
          refine Hp_mono (look_sp k7 (by omega) c4) ?_
          intro σ1 l1
          rw [Hp_bind]
          refine Hp_mono (reckon_sp k7 k1 c4 (a := a) (by omega) (KN_look l1)) ?_
          rintro σ2 ⟨w2, r2, -⟩
          have hK := KN_step (KN_look l1) w2
          have hI3 := inv_thr (x := 0) (inv_KN hI hK)
          rw [rr_ok (by omega) (by omega), bnd_s, rd_ok (by omega) (by omega), bnd_s, Hp_some]
          simp only [Int.toNat_natCast, rf_can (show a < 8 by omega)]
          have hb := Bs_bit1 (r2 t (by omega)).2 (i := s) (by omega)
          have e06 : σ2 170 35 = σ 0 6 := (hK.1 170 35 rfl).trans a0.1
          have e14 : σ2 170 30 = σ 1 4 := (hK.1 170 30 rfl).trans t1.1
          have e41 : σ2 170 41 = σ 30 5 := (hK.1 170 41 rfl).trans b0.1
          simp only [m_X12_canBe, Hp_bind, Hp_pt, m_isAgent_eq, m_isSpot_eq, m_isTick_eq, m_isKnown_eq, Hp_some]
          simp (disch := decide) only [up_eq, up_cell, up_slot, Int.toNat_natCast, true_and, and_true, eq_self]
          rw [e06, e14, e41]
          simp only [if_pos c1, if_pos c2, if_pos c3, if_pos c4, Int.reduceEq, if_false]
          rw [bnd_s]
          simp only [if_pos c2, Int.reduceEq, if_false]
          rw [bnd_s]
          simp only [if_pos c3, Int.reduceEq, if_false]
          rw [bnd_s]
          simp only [if_pos c4, Int.reduceEq, if_false]
          rw [Hp_bind]
          have e305 : up σ2 170 0 0 30 5 = σ 30 5 := by rw [up_cell (by decide)]; exact hK.1 30 5 rfl
          refine Hp_mono (goes_sp (n := a4) hI3 (by omega)) ?_
          rintro τ ⟨hG, hIt⟩
          have hga := hG.2.2 a (by rw [up_slot (by decide)]; omega)
          have hgb := hga.2 t s (by omega) (by omega)
          have hcc := can_cg (vw_KN (x := 0) (by omega) hK) a t s
          have hix : wr (wr (wr (960 * (a : Int)) + wr (10 * (t : Int))) + (s : Int)) = ((960 * a + 10 * t + s : Nat) : Int) := by
            rw [wr_id' (x := 960 * (a : Int)) (by omega) (by omega), wr_id' (x := 10 * (t : Int)) (by omega) (by omega), wr_id' (x := 960 * (a : Int) + 10 * (t : Int)) (by omega) (by omega), wr_id' (by omega) (by omega)]; omega
          rw [hix, rd_ok (by omega) (by omega), bnd_s, Int.toNat_natCast]
          by_cases hz : τ 221 (960 * a + 10 * t + s) = 0
          · rw [if_pos hz, Hp_some]
            have hno := (Bb_ne hgb).mp hz
            exact ⟨(hb.2 (fun q => hno (hcc.mpr q))).symm, hIt⟩
          · rw [if_neg hz, Hp_some]
            have hyes := hgb.2.mp (by have := hgb.1; omega)
            exact ⟨(hb.1 (hcc.mp hyes)).symm, hIt⟩
        · simp only [if_neg c4, if_true, Hp_some]; exact hbad (by omega)
      · simp only [if_neg c3, if_true, Hp_some]; exact hbad (by omega)
    · simp only [if_neg c2, if_true, Hp_some]; exact hbad (by omega)
  · simp only [if_neg c1, if_true, Hp_some]; exact hbad (by omega)
theorem can_s {σ : St} {n : Int} {a t s : Nat} (h : Can σ n a t s) : (s : Int) < σ 170 30 := by
  have := h.1
  cases t with
  | zero => rw [Fth] at this; exact this.1
  | succ t => rw [Fth] at this; exact this.1.1
theorem c_fits : PS_fits Inv := by
  intro σ a1 a4 hok hI h1 h4
  apply ps_of
  have hI2 := hI
  obtain ⟨k1, k2, k3, k4, k5, k6, k7, k8, k9, k10, k11⟩ := hI2
  have hq := inv_thr (x := 0) hI
  have t1 := k1.1
  have a0 := k6.1
  have b0 := k7.1
  have hbad : ¬ ((0 ≤ a1 ∧ a1 < σ 0 6) ∧ (0 ≤ a4 ∧ a4 ≤ σ 30 5)) → Hp (m_X12_fits a1 a4 σ) (fun q => q.1 = -1 ∧ Inv q.2) := by
    intro hc
    simp only [m_X12_fits, Hp_bind, Hp_pt, m_isAgent_eq, m_isKnown_eq, Hp_some]
    simp (disch := decide) only [up_eq, up_cell, up_slot, Int.toNat_natCast, true_and, and_true, eq_self]
    rw [a0.1, b0.1]
    by_cases c1 : 0 ≤ a1 ∧ a1 < σ 0 6
    · simp only [if_pos c1, Int.reduceEq, if_false]
      rw [bnd_s, if_neg (show ¬ (0 ≤ a4 ∧ a4 ≤ σ 30 5) by omega), if_pos rfl, Hp_some]
      exact ⟨rfl, hq⟩
    · simp only [if_neg c1, if_true, Hp_some]; exact ⟨by trivial, hq⟩
  rw [m_X11_fits, isAgent_eq (by omega), bnd_s]
  by_cases c1 : 0 ≤ a1 ∧ a1 < σ 0 6
  · simp only [if_pos c1, Int.reduceEq, if_false]
    rw [isKnow_eq, bnd_s]
    by_cases c4 : 0 ≤ a4 ∧ a4 ≤ σ 30 5
    · simp only [if_pos c4, Int.reduceEq, if_false]
      obtain ⟨a, rfl⟩ := Int.eq_ofNat_of_zero_le c1.1
      rw [Hp_bind]
      refine Hp_mono (look_sp k7 (by omega) c4) ?_
      intro σ1 l1
      rw [Hp_bind]
      refine Hp_mono (reckon_sp k7 k1 c4 (a := a) (by omega) (KN_look l1)) ?_
      rintro σ2 ⟨w2, r2, -⟩
      have hK := KN_step (KN_look l1) w2
      have hI3 := inv_thr (x := 0) (inv_KN hI hK)
      rw [rr_ok (by omega) (by omega), bnd_s, rd_ok (by omega) (by omega), bnd_s]
      simp only [Int.toNat_natCast, rf_can (show a < 8 by omega), show (0 : Int).toNat = 0 from rfl]
      have hb := Bs_zero_iff (r2 0 (by omega)).2 (fun s hs => by have := can_s hs; omega)
      have e06 : σ2 170 35 = σ 0 6 := (hK.1 170 35 rfl).trans a0.1
      have e41 : σ2 170 41 = σ 30 5 := (hK.1 170 41 rfl).trans b0.1
      have e305 : up σ2 170 0 0 30 5 = σ 30 5 := by rw [up_cell (by decide)]; exact hK.1 30 5 rfl
      have hm : Hp (m_X12_fits a a4 σ2) (fun q => ((q.1 = 1 ∧ ∃ s, Can σ a4 a 0 s) ∨ (q.1 = 0 ∧ ¬ ∃ s, Can σ a4 a 0 s)) ∧ Inv q.2) := by
        simp only [m_X12_fits, Hp_bind, Hp_pt, m_isAgent_eq, m_isKnown_eq, Hp_some]
        simp (disch := decide) only [up_eq, up_cell, up_slot, Int.toNat_natCast, true_and, and_true, eq_self]
        rw [e06, e41]
        simp only [if_pos c1, Int.reduceEq, if_false]
        rw [bnd_s]
        simp only [if_pos c4, Int.reduceEq, if_false]
        rw [Hp_bind]
        refine Hp_mono (goes_sp (n := a4) hI3 (by omega)) ?_
        rintro τ ⟨hG, hIt⟩
        have hga := (hG.2.2 a (by rw [up_slot (by decide)]; omega)).2
        have hcc := can_cg (vw_KN (x := 0) (by omega) hK) a 0
        have e30 : τ 170 30 = σ 170 30 := by
          rw [hG.1 170 30 rfl, up_slot (by decide)]
          exact hK.1 170 30 rfl
        rw [Hp_bind]
        refine Hp_up (fun j (x : Int) => x = (j : Int) ∧ ∀ s : Nat, s < j → ¬ Can σ a4 a 0 s) 0 (σ 170 30).toNat (by omega) (by omega) ⟨rfl, fun s h => by omega⟩ ?_ ?_
        · rintro j x - hj ⟨e1, e2⟩
          subst e1
          have hgb := hga 0 j (by omega) (by omega)
          simp only [m_X12_fits_L30]
          rw [if_neg (by omega), ix960 (by omega) (by omega), rd_ok (by omega) (by omega), bnd_s, Int.toNat_natCast]
          rw [show 960 * a + j = 960 * a + 10 * 0 + j by omega]
          by_cases hz : τ 221 (960 * a + 10 * 0 + j) = 0
          · rw [if_pos hz, Hp_some, Lq_inl, nx1 (by omega)]
            refine ⟨rfl, ?_⟩
            intro s hs
            by_cases hsj : s = j
            · subst hsj
              exact fun q => (Bb_ne hgb).mp hz ((hcc s).mpr q)
            · exact e2 s (by omega)
          · rw [if_neg hz, Hp_some, Lq_inr]
            simp only [Hp_some]
            exact ⟨Or.inl ⟨by trivial, j, (hcc j).mp (hgb.2.mp (by have := hgb.1; omega))⟩, hIt⟩
        · rintro x ⟨e1, e2⟩
          subst e1
          simp only [m_X12_fits_L30]
          rw [if_pos (by omega), Hp_some, Lq_inr]
          simp only [Hp_some]
          refine ⟨Or.inr ⟨by trivial, ?_⟩, hIt⟩
          rintro ⟨s, hs⟩
          have := can_s hs
          exact e2 s (by omega) hs
      by_cases hz : σ2 (97 + a) 0 = 0
      · rw [if_pos hz, Hp_some]
        refine Hp_mono hm ?_
        rintro ⟨y, τ⟩ ⟨(⟨-, s, hs⟩ | ⟨q, -⟩), g⟩
        · exact absurd hs (hb.mp hz s)
        · exact ⟨q, g⟩
      · rw [if_neg hz, Hp_some]
        refine Hp_mono hm ?_
        rintro ⟨y, τ⟩ ⟨(⟨q, -⟩ | ⟨-, q⟩), g⟩
        · exact ⟨q, g⟩
        · exact absurd (hb.mpr (fun s hs => q ⟨s, hs⟩)) hz
    · simp only [if_neg c4, if_true, Hp_some]; exact hbad (by omega)
  · simp only [if_neg c1, if_true, Hp_some]; exact hbad (by omega)
