/-! the model's spread whole; could, since -/
theorem Hd_s {c : Ky} : ∀ (u s : Nat), Hd c u s → (s : Int) < c.1 170 30 := by
  intro u
  induction u with
  | zero =>
    intro s h
    rw [Hd_iff] at h
    rcases h with ⟨-, q, -⟩ | ⟨a, -, q, -⟩
    · omega
    · exact can_s q
  | succ u ih =>
    intro s h
    rw [Hd_iff] at h
    rcases h with ⟨-, -, q⟩ | ⟨a, -, q, -⟩
    · exact ih s q
    · exact can_s q
theorem spr_b {c : Ky} {τ1 : St} {v : Nat} {drops : Int} (hT : iTown c.1) (hA : c.2.2.1 ≤ 8) (hv : c.2.2.2.2.2 + v < 96) (hd : c.2.2.2.2.1 ↔ ¬ drops = 0) (hM : MC c τ1) (hP : ∀ a s, a < c.2.2.1 → s < 10 → Bb (τ1 226 (960 * a + 10 * (c.2.2.2.2.2 + v) + s)) (Pg c v v a s)) (hD : c.2.2.2.2.1 → ∀ s, s < 10 → Bb (τ1 227 s) (1 ≤ v ∧ Hd c (v - 1) s)) :
    Hp (lp (fun z => m_X12_spreads_L161 drops ((c.2.2.2.2.2 + v : Nat) : Int) z.1 z.2) (0, τ1)) (fun τ => Wr ([(226, 227)], []) τ1 τ ∧ (∀ a u s, a < c.2.2.1 → u ≠ v → c.2.2.2.2.2 + u < 96 → s < 10 → τ 226 (960 * a + 10 * (c.2.2.2.2.2 + u) + s) = τ1 226 (960 * a + 10 * (c.2.2.2.2.2 + u) + s)) ∧ (∀ a s, a < c.2.2.1 → s < 10 → Bb (τ 226 (960 * a + 10 * (c.2.2.2.2.2 + v) + s)) (Hh c v a s)) ∧ (c.2.2.2.2.1 → ∀ s, s < 10 → Bb (τ 227 s) (Hd c v s))) := by
  have t1 := hT.1
  refine Hp_up (fun j (z : Int × St) => z.1 = (j : Int) ∧ Wr ([(226, 227)], []) τ1 z.2 ∧ (∀ a u s, a < c.2.2.1 → (u ≠ v ∨ j ≤ s) → c.2.2.2.2.2 + u < 96 → s < 10 → z.2 226 (960 * a + 10 * (c.2.2.2.2.2 + u) + s) = τ1 226 (960 * a + 10 * (c.2.2.2.2.2 + u) + s)) ∧ (∀ a s, a < c.2.2.1 → s < j → Bb (z.2 226 (960 * a + 10 * (c.2.2.2.2.2 + v) + s)) (Hh c v a s)) ∧ (c.2.2.2.2.1 → (∀ s, s < j → Bb (z.2 227 s) (Hd c v s)) ∧ ∀ s, j ≤ s → s < 10 → Bb (z.2 227 s) (1 ≤ v ∧ Hd c (v - 1) s))) 0 (c.1 1 4).toNat (by omega) (by omega) ⟨rfl, Wr_rf, fun _ _ _ _ _ _ _ => rfl, fun a s _ h => by omega, fun h => ⟨fun s hs => by omega, fun s _ hs => hD h s hs⟩⟩ ?_ ?_
  · rintro s ⟨x, τ⟩ - hs ⟨e1, e2, e3, e4, e5⟩
    simp only at e1 e2 e3 e4 e5
    subst e1
    have hs10 : s < 10 := by omega
    have hM' := MC_step hM e2
    have f35 := hM'.2.1
    have f30 : τ 170 30 = c.1 1 4 := (hM'.1 170 30 (by omega)).trans t1.1
    have hold : ∀ a, a < c.2.2.1 → Bb (τ 226 (960 * a + 10 * (c.2.2.2.2.2 + v) + s)) (Pg c v v a s) := fun a ha => by
      rw [e3 a v s ha (Or.inr (Nat.le_refl _)) hv hs10]; exact hP a s ha hs10
    have hcan : ∀ a, a < c.2.2.1 → Bb (τ 221 (960 * a + 10 * (c.2.2.2.2.2 + v) + s)) (cCan c a (c.2.2.2.2.2 + v) s) := fun a ha => (hM'.2.2 a ha).2 (c.2.2.2.2.2 + v) s hv hs10
    -- the end of the turn
    have fin : ∀ τ3 : St, Wr ([(226, 227)], []) τ τ3 → (∀ i, (∀ a, a < c.2.2.1 → i ≠ 960 * a + 10 * (c.2.2.2.2.2 + v) + s) → τ3 226 i = τ 226 i) → (∀ a, a < c.2.2.1 → Bb (τ3 226 (960 * a + 10 * (c.2.2.2.2.2 + v) + s)) (Hh c v a s)) → (∀ s', s' ≠ s → τ3 227 s' = τ 227 s') → (c.2.2.2.2.1 → Bb (τ3 227 s) (Hd c v s)) → Hp (some (Sum.inl (wr ((s : Int) + 1), τ3))) (Lq (fun τ => Wr ([(226, 227)], []) τ1 τ ∧ (∀ a u s, a < c.2.2.1 → u ≠ v → c.2.2.2.2.2 + u < 96 → s < 10 → τ 226 (960 * a + 10 * (c.2.2.2.2.2 + u) + s) = τ1 226 (960 * a + 10 * (c.2.2.2.2.2 + u) + s)) ∧ (∀ a s, a < c.2.2.1 → s < 10 → Bb (τ 226 (960 * a + 10 * (c.2.2.2.2.2 + v) + s)) (Hh c v a s)) ∧ (c.2.2.2.2.1 → ∀ s, s < 10 → Bb (τ 227 s) (Hd c v s))) (fun (z : Int × St) => z.1 = ((s + 1 : Nat) : Int) ∧ Wr ([(226, 227)], []) τ1 z.2 ∧ (∀ a u s', a < c.2.2.1 → (u ≠ v ∨ s + 1 ≤ s') → c.2.2.2.2.2 + u < 96 → s' < 10 → z.2 226 (960 * a + 10 * (c.2.2.2.2.2 + u) + s') = τ1 226 (960 * a + 10 * (c.2.2.2.2.2 + u) + s')) ∧ (∀ a s', a < c.2.2.1 → s' < s + 1 → Bb (z.2 226 (960 * a + 10 * (c.2.2.2.2.2 + v) + s')) (Hh c v a s')) ∧ (c.2.2.2.2.1 → (∀ s', s' < s + 1 → Bb (z.2 227 s') (Hd c v s')) ∧ ∀ s', s + 1 ≤ s' → s' < 10 → Bb (z.2 227 s') (1 ≤ v ∧ Hd c (v - 1) s')))) := by
      intro τ3 w3 q1 q2 q3 q4
      rw [Hp_some, Lq_inl, nx1 (by omega)]
      refine ⟨rfl, Wr_tr e2 w3, ?_, ?_, ?_⟩
      · intro a u s' ha hu hu2 hs'
        simp only
        rw [q1 _ (fun a' ha' => by omega)]
        exact e3 a u s' ha (by omega) hu2 hs'
      · intro a s' ha hs'
        simp only
        by_cases hss : s' = s
        · subst hss; exact q2 a ha
        · rw [q1 _ (fun a' ha' => by omega)]
          exact e4 a s' ha (by omega)
      · intro hdr
        obtain ⟨r1, r2⟩ := e5 hdr
        refine ⟨fun s' hs' => ?_, fun s' hs' hs2 => ?_⟩
        · simp only
          by_cases hss : s' = s
          · subst hss; exact q4 hdr
          · rw [q3 s' hss]; exact r1 s' (by omega)
        · simp only
          rw [q3 s' (by omega)]; exact r2 s' (by omega) hs2
    -- what is set where the word is heard
    have setH : Hd c v s → ∀ τ2 : St, (∀ a, a < c.2.2.1 → τ2 226 (960 * a + 10 * (c.2.2.2.2.2 + v) + s) = if τ 221 (960 * a + 10 * (c.2.2.2.2.2 + v) + s) = 0 then τ 226 (960 * a + 10 * (c.2.2.2.2.2 + v) + s) else 1) → ∀ a, a < c.2.2.1 → Bb (τ2 226 (960 * a + 10 * (c.2.2.2.2.2 + v) + s)) (Hh c v a s) := by
      intro hH τ2 hq a ha
      rw [hq a ha]
      by_cases hz : τ 221 (960 * a + 10 * (c.2.2.2.2.2 + v) + s) = 0
      · have hno := (Bb_ne (hcan a ha)).mp hz
        rw [if_pos hz]
        refine Bb_cg (hold a ha) ?_
        exact ⟨fun q => absurd q.1 hno, fun q => absurd q.1 hno⟩
      · rw [if_neg hz]
        exact Bb_1 ⟨(hcan a ha).2.mp (by have := (hcan a ha).1; omega), hH⟩
    have hJ : (c.2.2.2.2.1 → τ 227 s = 0) → Hp (m_X12_spreads_J188 τ ((c.2.2.2.2.2 + v : Nat) : Int) s) (Lq (fun τ => Wr ([(226, 227)], []) τ1 τ ∧ (∀ a u s, a < c.2.2.1 → u ≠ v → c.2.2.2.2.2 + u < 96 → s < 10 → τ 226 (960 * a + 10 * (c.2.2.2.2.2 + u) + s) = τ1 226 (960 * a + 10 * (c.2.2.2.2.2 + u) + s)) ∧ (∀ a s, a < c.2.2.1 → s < 10 → Bb (τ 226 (960 * a + 10 * (c.2.2.2.2.2 + v) + s)) (Hh c v a s)) ∧ (c.2.2.2.2.1 → ∀ s, s < 10 → Bb (τ 227 s) (Hd c v s))) (fun (z : Int × St) => z.1 = ((s + 1 : Nat) : Int) ∧ Wr ([(226, 227)], []) τ1 z.2 ∧ (∀ a u s', a < c.2.2.1 → (u ≠ v ∨ s + 1 ≤ s') → c.2.2.2.2.2 + u < 96 → s' < 10 → z.2 226 (960 * a + 10 * (c.2.2.2.2.2 + u) + s') = τ1 226 (960 * a + 10 * (c.2.2.2.2.2 + u) + s')) ∧ (∀ a s', a < c.2.2.1 → s' < s + 1 → Bb (z.2 226 (960 * a + 10 * (c.2.2.2.2.2 + v) + s')) (Hh c v a s')) ∧ (c.2.2.2.2.1 → (∀ s', s' < s + 1 → Bb (z.2 227 s') (Hd c v s')) ∧ ∀ s', s + 1 ≤ s' → s' < 10 → Bb (z.2 227 s') (1 ≤ v ∧ Hd c (v - 1) s')))) := by
      intro h0
      have hno : ¬ (c.2.2.2.2.1 ∧ 1 ≤ v ∧ Hd c (v - 1) s) := fun q => (Bb_ne ((e5 q.1).2 s (Nat.le_refl _) hs10)).mp (h0 q.1) q.2
      rw [m_X12_spreads_J188, Hp_bind]
      refine Hp_mono (here_2 (A := c.2.2.1) hA hv hs10 f35 (fun a ha => (hold a ha).1)) ?_
      intro h hh
      have hhd : Hd c v s ↔ ∃ a, a < c.2.2.1 ∧ τ 226 (960 * a + 10 * (c.2.2.2.2.2 + v) + s) = 1 := by
        rw [Hd_iff]
        constructor
        · rintro (q | ⟨a, q1, q2⟩)
          · exact absurd q hno
          · exact ⟨a, q1, (hold a q1).2.mpr q2⟩
        · rintro ⟨a, q1, q2⟩
          exact Or.inr ⟨a, q1, (hold a q1).2.mp q2⟩
      rw [Hp_bind]
      by_cases hz : h = 0
      · have hnH : ¬ Hd c v s := fun q => (Bb_ne hh).mp hz (hhd.mp q)
        rw [hz]
        refine Hp_mono (set_3 (A := c.2.2.1) hA f35) ?_
        intro τ2 hτ2
        subst hτ2
        rw [Hp_bind]
        refine Hp_mono (drop_2 (A := c.2.2.1) hA hv hs10 f35 (fun a ha => (hold a ha).1)) ?_
        rintro τ3 ⟨w3, q1, q2⟩
        refine fin τ3 (Wr_sb w3 rfl) (fun i _ => w3 226 i rfl) ?_ q1 ?_
        · intro a ha
          rw [w3 226 _ rfl]
          refine Bb_cg (hold a ha) ?_
          exact ⟨fun q => absurd ((Hd_iff c v s).mpr (Or.inr ⟨a, ha, q⟩)) hnH, fun q => absurd q.2 hnH⟩
        · intro hdr
          rcases q2 with ⟨q, -⟩ | ⟨-, q⟩
          · exact absurd (hhd.mpr q) hnH
          · rw [q, h0 hdr]; exact Bb_0 hnH
      · have hH : Hd c v s := hhd.mpr (hh.2.mp (by have := hh.1; omega))
        refine Hp_mono (set_2 (A := c.2.2.1) hz hA hv hs10 f35) ?_
        rintro τ2 ⟨w2, p1, p2⟩
        have hset := setH hH τ2 p2
        have f35' : τ2 170 35 = (c.2.2.1 : Int) := (w2 170 35 rfl).trans f35
        rw [Hp_bind]
        refine Hp_mono (drop_2 (A := c.2.2.1) hA hv hs10 f35' (fun a ha => (hset a ha).1)) ?_
        rintro τ3 ⟨w3, q1, q2⟩
        refine fin τ3 (Wr_tr (Wr_sb w2 rfl) (Wr_sb w3 rfl)) (fun i hi => by rw [w3 226 i rfl]; exact p1 i hi) (fun a ha => by rw [w3 226 _ rfl]; exact hset a ha) (fun s' hs' => by rw [q1 s' hs', w2 227 s' rfl]) ?_
        intro hdr
        rcases q2 with ⟨-, q⟩ | ⟨q, -⟩
        · rw [q]; exact Bb_1 hH
        · exfalso
          obtain ⟨a, r1, r2⟩ := hhd.mp hH
          have hpg := (hold a r1).2.mp r2
          exact q ⟨a, r1, (hset a r1).2.mpr ⟨hpg.1, hH⟩⟩
    simp only [m_X12_spreads_L161]
    rw [if_neg (by omega)]
    by_cases hdr : drops = 0
    · rw [if_pos hdr]
      exact hJ (fun q => absurd hdr (hd.mp q))
    · have hdr' := hd.mpr hdr
      have h227 := (e5 hdr').2 s (Nat.le_refl _) hs10
      rw [if_neg hdr, rd_ok (by omega) (by omega), bnd_s, Int.toNat_natCast]
      by_cases hz : τ 227 s = 0
      · rw [if_pos hz]
        exact hJ (fun _ => hz)
      · rw [if_neg hz]
        have h1 := h227.2.mp (by have := h227.1; omega)
        have hH : Hd c v s := (Hd_iff c v s).mpr (Or.inl ⟨hdr', h1⟩)
        rw [Hp_bind]
        refine Hp_mono (here_1 (A := c.2.2.1) hA hv hs10 f35 (fun a ha => (hold a ha).1)) ?_
        intro h _
        rw [Hp_bind]
        refine Hp_mono (set_1 (A := c.2.2.1) hA hv hs10 f35) ?_
        rintro τ2 ⟨w2, p1, p2⟩
        have hset := setH hH τ2 p2
        have f35' : τ2 170 35 = (c.2.2.1 : Int) := (w2 170 35 rfl).trans f35
        rw [Hp_bind]
        refine Hp_mono (drop_1 (A := c.2.2.1) hA hv hs10 f35' (fun a ha => (hset a ha).1)) ?_
        rintro τ3 ⟨w3, q1, q2⟩
        refine fin τ3 (Wr_tr (Wr_sb w2 rfl) (Wr_sb w3 rfl)) (fun i hi => by rw [w3 226 i rfl]; exact p1 i hi) (fun a ha => by rw [w3 226 _ rfl]; exact hset a ha) (fun s' hs' => by rw [q1 s' hs', w2 227 s' rfl]) ?_
        intro _
        rcases q2 with ⟨-, q⟩ | ⟨-, q⟩
        · rw [q]; exact Bb_1 hH
        · rw [q, w2 227 s rfl]
          have := h227.2.mpr h1
          rw [this]; exact Bb_1 hH
  · rintro ⟨x, τ⟩ ⟨e1, e2, e3, e4, e5⟩
    simp only at e1 e2 e3 e4 e5
    subst e1
    have hM' := MC_step hM e2
    have f30 : τ 170 30 = c.1 1 4 := (hM'.1 170 30 (by omega)).trans t1.1
    simp only [m_X12_spreads_L161]
    rw [if_pos (by omega), Hp_some, Lq_inr]
    refine ⟨e2, fun a u s ha hu hu2 hs => e3 a u s ha (Or.inl hu) hu2 hs, ?_, ?_⟩
    · intro a s ha hs
      by_cases hss : s < (c.1 1 4).toNat
      · exact e4 a s ha hss
      · rw [e3 a v s ha (Or.inr (by omega)) hv hs]
        refine Bb_cg (hP a s ha hs) ?_
        constructor
        · intro q; have := can_s q.1; omega
        · intro q; have := can_s q.1; omega
    · intro hdr s hs
      obtain ⟨r1, r2⟩ := e5 hdr
      by_cases hss : s < (c.1 1 4).toNat
      · exact r1 s hss
      · refine Bb_cg (r2 s (by omega) hs) ?_
        constructor
        · rintro ⟨-, q⟩; have := Hd_s _ _ q; omega
        · intro q; have := Hd_s _ _ q; omega
theorem q_i (j : Int) (τ : St) : m_X12_spreads_L3 j τ = if (7680 : Int) ≤ j then some (.inr τ) else (wt τ 226 7680 j 0).bind fun τ' => some (.inl (wr (j + 1), τ')) := by rw [m_X12_spreads_L3]
theorem q_j (j : Int) (τ : St) : m_X12_spreads_L28 j τ = if (10 : Int) ≤ j then some (.inr τ) else (wt τ 227 10 j 0).bind fun τ' => some (.inl (wr (j + 1), τ')) := by rw [m_X12_spreads_L28]
/-- what spreads leaves -/
def SpM (c : Ky) (τ : St) : Prop := MC c τ ∧ ∀ a u s, a < c.2.2.1 → c.2.2.2.2.2 + u < 96 → s < 10 → Bb (τ 226 (960 * a + 10 * (c.2.2.2.2.2 + u) + s)) (Hh c u a s)
theorem spreads_sp {c : Ky} {τ0 : St} {set drops : Int} (hT : iTown c.1) (hA : c.2.2.1 ≤ 8) (ht : c.2.2.2.2.2 < 96) (hM : MC c τ0) (hS : ∀ a, c.2.2.2.1 a ↔ tb set a = true) (hd : c.2.2.2.2.1 ↔ ¬ drops = 0) :
    Hp (m_X12_spreads set (c.2.2.2.2.2 : Int) drops τ0) (fun τ => Wr ([(226, 227)], []) τ0 τ ∧ SpM c τ) := by
  obtain ⟨τ1, o1, w1, z1⟩ := fill_sp (f := fun a => m_X12_spreads_L3 a.1 a.2) (σ := τ0) (c := 226) (N := 7680) (NI := 7680) (v := 0) (by omega) (by omega) q_i
  obtain ⟨τ2, o2, w2, z2⟩ := fill_sp (f := fun a => m_X12_spreads_L28 a.1 a.2) (σ := τ1) (c := 227) (N := 10) (NI := 10) (v := 0) (by omega) (by omega) q_j
  have w02 : Wr ([(226, 227)], []) τ0 τ2 := Wr_tr (Wr_sb w1 rfl) (Wr_sb w2 rfl)
  rw [m_X12_spreads, o1, bnd_s, o2, bnd_s, Hp_bind]
  simp only [Hp_some]
  refine Hp_up (fun j (z : Int × St) => z.1 = (j : Int) ∧ Wr ([(226, 227)], []) τ0 z.2 ∧ MsI c (j - c.2.2.2.2.2) z.2) c.2.2.2.2.2 96 (by omega) (by omega) ⟨rfl, w02, MC_step hM w02, fun a u s _ h => by omega, fun a u s ha hu hu2 hs => by simp only; rw [w2 226 _ rfl]; exact z1 _ (by omega), fun _ s hs => by simp only; rw [z2 s hs]; exact Bb_0 (fun q => by omega)⟩ ?_ ?_
  · rintro t ⟨x, τ⟩ ht1 ht2 ⟨e1, e2, e3⟩
    simp only at e1 e2 e3
    subst e1
    obtain ⟨v, rfl⟩ : ∃ v, t = c.2.2.2.2.2 + v := ⟨t - c.2.2.2.2.2, by omega⟩
    rw [show c.2.2.2.2.2 + v - c.2.2.2.2.2 = v by omega] at e3
    simp only [m_X12_spreads_L52]
    rw [if_neg (by omega), Hp_bind]
    refine Hp_mono (spr_a hT hA ht2 hS e3) ?_
    rintro τ3 ⟨w3, p1, p2⟩
    obtain ⟨m1, m2, m3, m4⟩ := e3
    rw [Hp_bind]
    refine Hp_mono (spr_b hT hA ht2 hd (MC_step m1 (Wr_sb w3 rfl)) p2 (fun h s hs => by rw [w3 227 s rfl]; exact m4 h s hs)) ?_
    rintro τ4 ⟨w4, r1, r2, r3⟩
    rw [Hp_some, Lq_inl, nx1 (by omega), show c.2.2.2.2.2 + v + 1 - c.2.2.2.2.2 = v + 1 by omega]
    refine ⟨rfl, Wr_tr e2 (Wr_tr (Wr_sb w3 rfl) w4), MC_step m1 (Wr_tr (Wr_sb w3 rfl) w4), ?_, ?_, ?_⟩
    · intro a u s ha hu hu2 hs
      simp only
      by_cases huv : u = v
      · subst huv; exact r2 a s ha hs
      · rw [r1 a u s ha huv hu2 hs, p1 a u s ha huv hu2 hs]
        exact m2 a u s ha (by omega) hu2 hs
    · intro a u s ha hu hu2 hs
      simp only
      rw [r1 a u s ha (by omega) hu2 hs, p1 a u s ha (by omega) hu2 hs]
      exact m3 a u s ha (by omega) hu2 hs
    · intro h s hs
      refine Bb_cg (r3 h s hs) ?_
      rw [show v + 1 - 1 = v by omega]
      exact ⟨fun q => ⟨by omega, q⟩, fun q => q.2⟩
  · rintro ⟨x, τ⟩ ⟨e1, e2, e3⟩
    simp only at e1 e2 e3
    subst e1
    obtain ⟨m1, m2, m3, m4⟩ := e3
    simp only [m_X12_spreads_L52]
    rw [if_pos (by omega), Hp_some, Lq_inr]
    exact ⟨e2, m1, fun a u s ha hu hs => m2 a u s ha (by omega) hu hs⟩
theorem first_sp {c : Ky} {τ : St} {a : Nat} (hT : iTown c.1) (hA : c.2.2.1 ≤ 8) (ht : c.2.2.2.2.2 < 96) (ha : a < c.2.2.1) (h : SpM c τ) : ∃ b, m_X12_first a (c.2.2.2.2.2 : Int) τ = some b ∧ FsI c (96 - c.2.2.2.2.2) a b := by
  obtain ⟨hM, hH⟩ := h
  have t1 := hT.1
  have f30 : τ 170 30 = c.1 1 4 := (hM.1 170 30 (by omega)).trans t1.1
  have h : Hp (m_X12_first a (c.2.2.2.2.2 : Int) τ) (fun b => FsI c (96 - c.2.2.2.2.2) a b) := by
    rw [m_X12_first, Hp_bind]
    refine Hp_up (fun j (x : Int) => x = (j : Int) ∧ ∀ u, u < j - c.2.2.2.2.2 → ∀ s, ¬ Hh c u a s) c.2.2.2.2.2 96 (by omega) (by omega) ⟨rfl, fun u hu => by omega⟩ ?_ ?_
    · rintro t x ht1 ht2 ⟨e1, e2⟩
      subst e1
      obtain ⟨v, rfl⟩ : ∃ v, t = c.2.2.2.2.2 + v := ⟨t - c.2.2.2.2.2, by omega⟩
      rw [show c.2.2.2.2.2 + v - c.2.2.2.2.2 = v by omega] at e2
      simp only [m_X12_first_L2]
      rw [if_neg (by omega), Hp_bind]
      refine Hp_up (fun j (x : Int) => x = (j : Int) ∧ ∀ s, s < j → ¬ Hh c v a s) 0 (c.1 1 4).toNat (by omega) (by omega) ⟨rfl, fun s hs => by omega⟩ ?_ ?_
      · rintro s x - hs ⟨g1, g2⟩
        subst g1
        have hb := hH a v s ha ht2 (by omega)
        simp only [m_X12_first_L11]
        rw [if_neg (by omega), ixh (by omega) (by omega) (by omega), rd_ok (by omega) (by omega), bnd_s, Int.toNat_natCast]
        by_cases hz : τ 226 (960 * a + 10 * (c.2.2.2.2.2 + v) + s) = 0
        · rw [if_pos hz, Hp_some, Lq_inl, nx1 (by omega)]
          refine ⟨rfl, ?_⟩
          intro s' hs'
          by_cases hss : s' = s
          · subst hss; exact (Bb_ne hb).mp hz
          · exact g2 s' (by omega)
        · rw [if_neg hz, Hp_some, Lq_inr]
          simp only [Hp_some]
          rw [Lq_inr]
          simp only [Hp_some]
          exact Or.inr ⟨v, by omega, rfl, ⟨s, hb.2.mp (by have := hb.1; omega)⟩, e2⟩
      · rintro x ⟨g1, g2⟩
        subst g1
        simp only [m_X12_first_L11]
        rw [if_pos (by omega), Hp_some, Lq_inr]
        simp only [Hp_some]
        rw [Lq_inl, nx1 (by omega)]
        refine ⟨rfl, ?_⟩
        intro u hu s
        by_cases huv : u = v
        · subst huv
          intro q
          have := can_s q.1
          exact g2 s (by omega) q
        · exact e2 u (by omega) s
    · rintro x ⟨e1, e2⟩
      subst e1
      simp only [m_X12_first_L2]
      rw [if_pos (by omega), Hp_some, Lq_inr]
      simp only [Hp_some]
      exact Or.inl ⟨by trivial, e2⟩
  obtain ⟨b, h1, h2⟩ := h
  exact ⟨b, h1, h2⟩
theorem FsI_uniq {c : Ky} {v i : Nat} {x y : Int} (hx : FsI c v i x) (hy : FsI c v i y) : x = y := by
  rcases hx with ⟨h1, h2⟩ | ⟨u, h1, h2, ⟨s, h3⟩, h4⟩
  · rcases hy with ⟨g1, g2⟩ | ⟨u', g1, g2, ⟨s', g3⟩, g4⟩
    · omega
    · exact absurd g3 (h2 u' g1 s')
  · rcases hy with ⟨g1, g2⟩ | ⟨u', g1, g2, ⟨s', g3⟩, g4⟩
    · exact absurd h3 (g2 u h1 s)
    · have : ¬ u < u' := fun q => g4 u q s h3
      have : ¬ u' < u := fun q => h4 u' q s' g3
      have : u = u' := by omega
      subst this
      omega
theorem know_sp {c : Ky} {τ : St} {by' : Int} (hT : iTown c.1) (hA : c.2.2.1 ≤ 8) (ht : c.2.2.2.2.2 < 96) (h : SpM c τ) : Hp (m_X12_know (c.2.2.2.2.2 : Int) by' τ) (fun x => Bs x (fun i => i < c.2.2.1 ∧ ∃ b, FsI c (96 - c.2.2.2.2.2) i b ∧ b ≠ -1 ∧ b ≤ by')) := by
  have f35 := h.1.2.1
  rw [m_X12_know, Hp_bind]
  simp only [Hp_some]
  refine Hp_up (fun j (z : Int × Int) => z.2 = (j : Int) ∧ Bs z.1 (fun i => i < j ∧ ∃ b, FsI c (96 - c.2.2.2.2.2) i b ∧ b ≠ -1 ∧ b ≤ by')) 0 c.2.2.1 (by omega) (by omega) ⟨rfl, Bs_cg Bs_zero (fun s => ⟨fun q => absurd q id, fun q => by omega⟩)⟩ ?_ ?_
  · rintro j ⟨y, x⟩ - hj ⟨e1, e2⟩
    simp only at e1 e2
    subst e1
    obtain ⟨b, b1, b2⟩ := first_sp hT hA ht hj h
    have hno : ¬ (b ≠ -1 ∧ b ≤ by') → Bs y (fun i => i < j + 1 ∧ ∃ b, FsI c (96 - c.2.2.2.2.2) i b ∧ b ≠ -1 ∧ b ≤ by') := by
      intro hn
      refine Bs_cg e2 ?_
      intro s
      constructor
      · rintro ⟨q1, q2⟩; exact ⟨by omega, q2⟩
      · rintro ⟨q1, b', q2, q3⟩
        by_cases hsj : s = j
        · subst hsj
          rw [FsI_uniq q2 b2] at q3
          exact absurd q3 hn
        · exact ⟨by omega, b', q2, q3⟩
    simp only [m_X12_know_L5]
    rw [if_neg (by omega), b1, bnd_s]
    by_cases h1 : b = -1
    · rw [if_pos h1, Hp_some, Lq_inl, nx1 (by omega)]
      exact ⟨rfl, hno (fun q => q.1 h1)⟩
    · rw [if_neg h1]
      by_cases h2 : by' < b
      · rw [if_pos h2, Hp_some, Lq_inl, nx1 (by omega)]
        exact ⟨rfl, hno (fun q => by omega)⟩
      · rw [if_neg h2]
        simp only [vl]
        rw [bnd_s, Hp_some, Lq_inl, nx1 (by omega)]
        refine ⟨rfl, Bs_cg (Bs_or e2 (Bs_bit (i := j) (by omega))) ?_⟩
        intro s
        constructor
        · rintro (⟨q1, q2⟩ | q)
          · exact ⟨by omega, q2⟩
          · subst q; exact ⟨by omega, b, b2, h1, by omega⟩
        · rintro ⟨q1, q2⟩
          by_cases hsj : s = j
          · exact Or.inr hsj
          · exact Or.inl ⟨by omega, q2⟩
  · rintro ⟨y, x⟩ ⟨e1, e2⟩
    simp only at e1 e2
    subst e1
    simp only [m_X12_know_L5]
    rw [if_pos (by omega), Hp_some, Lq_inr]
    exact e2
theorem Bs_ext {x y : Int} {P Q : Nat → Prop} (hx : Bs x P) (hy : Bs y Q) (h : ∀ s, P s ↔ Q s) : x = y := by
  apply tb_ext hx.1 hy.1
  intro i _
  have h1 := hx.2 i
  have h2 := hy.2 i
  have h3 := h i
  cases hb : tb x i <;> cases hc : tb y i
  · rfl
  · exact absurd (h1.mpr (h3.mpr (h2.mp hc))) (by rw [hb]; decide)
  · exact absurd (h2.mpr (h3.mp (h1.mp hb))) (by rw [hc]; decide)
  · rfl
theorem isSet_eq {a : Int} {σ : St} : m_X11_isSet a σ = some (if 0 ≤ a ∧ a < shlI 1 (σ 0 6) then 1 else 0) := by
  unfold m_X11_isSet
  split
  · rw [if_neg (by omega)]
  · split
    · rw [if_neg (by omega)]
    · rw [if_pos (by omega)]
theorem m_isSet_eq {a : Int} {σ : St} : m_X12_isSet a σ = some (if 0 ≤ a ∧ a < shlI 1 (σ 170 35) then 1 else 0) := by
  unfold m_X12_isSet
  split
  · rw [if_neg (by omega)]
  · split
    · rw [if_neg (by omega)]
    · rw [if_pos (by omega)]
/-- goes, after the class's side -/
theorem goes_c {σ σ2 : St} {n : Int} (hI : Inv σ) (hn : 0 ≤ n ∧ n ≤ σ 30 5) (hK : KN σ σ2 n) : Hp (m_X12_goes n (up σ2 170 0 0)) (fun τ => Inv τ ∧ ∀ c : Ky, c.1 = σ → c.2.1 = n → (c.2.2.1 : Int) = σ 0 6 → MC c τ) := by
  have b0 := hI.2.2.2.2.2.2.1.1
  have a0 := hI.2.2.2.2.2.1.1
  have e305 : up σ2 170 0 0 30 5 = σ 30 5 := by rw [up_cell (by decide)]; exact hK.1 30 5 rfl
  have e35 : up σ2 170 0 0 170 35 = σ 170 35 := by rw [up_slot (by decide)]; exact hK.1 170 35 rfl
  refine Hp_mono (goes_sp (n := n) (inv_thr (x := 0) (inv_KN hI hK)) (by omega)) ?_
  rintro τ ⟨hG, hIt⟩
  refine ⟨hIt, ?_⟩
  have hv := vw_KN (x := 0) (show n ≤ σ 170 41 by omega) hK
  rintro ⟨s0, n0, A, rest⟩ rfl rfl hA
  simp only at hA
  refine ⟨?_, ?_, ?_⟩
  · intro k j hk
    simp only
    rcases hk with q | q | q | ⟨q, q' | q'⟩
    · subst q; rw [hG.1 _ _ rfl, up_cell (by decide)]; exact hK.1 _ _ rfl
    · subst q; rw [hG.1 _ _ rfl, up_cell (by decide)]; exact hK.1 _ _ rfl
    · subst q; rw [hG.1 _ _ rfl, up_cell (by decide)]; exact hK.1 _ _ rfl
    · subst q; subst q'; rw [hG.1 _ _ rfl, up_slot (by decide)]; exact hK.1 _ _ rfl
    · subst q; subst q'; rw [hG.1 _ _ rfl, up_slot (by decide)]; exact hK.1 _ _ rfl
  · rw [hG.1 170 35 rfl, e35, a0.1]; exact hA.symm
  · intro a ha
    have ha' : a < A := ha
    have hA' : (A : Int) = s0 0 6 := hA
    have := hG.2.2 a (by rw [e35, a0.1]; simp only; omega)
    exact ⟨fun d hd => Bb_cg (this.1 d hd) (sgtd_cg hv a d), fun d s hd hs => Bb_cg (this.2 d s hd hs) (can_cg hv a d s)⟩
theorem inv_226 {τ τ' : St} (hI : Inv τ) (h : Wr ([(226, 227)], []) τ τ') : Inv τ' := by
  refine inv_step (L := ([(226, 227)], [])) hI ?_ (Or.inl (by decide +kernel)) (Or.inl (by decide +kernel)) (Or.inl (by decide +kernel)) (Or.inl (by decide +kernel)) (Or.inl (by decide +kernel)) (Or.inl (by decide +kernel)) (Or.inl (by decide +kernel)) (Or.inl (by decide +kernel)) (Or.inl (by decide +kernel)) (Or.inl (by decide +kernel)) (Or.inl (by decide +kernel))
  exact h
theorem inv_rum {τ τ' : St} (hI : Inv τ) (h : Wr ([(97, 104), (106, 117), (154, 154), (156, 163)], []) τ τ') : Inv τ' := by
  refine inv_step (L := ([(97, 104), (106, 117), (154, 154), (156, 163)], [])) hI ?_ (Or.inl (by decide +kernel)) (Or.inl (by decide +kernel)) (Or.inl (by decide +kernel)) (Or.inl (by decide +kernel)) (Or.inl (by decide +kernel)) (Or.inl (by decide +kernel)) (Or.inl (by decide +kernel)) (Or.inl (by decide +kernel)) (Or.inl (by decide +kernel)) (Or.inl (by decide +kernel)) (Or.inl (by decide +kernel))
  exact h
