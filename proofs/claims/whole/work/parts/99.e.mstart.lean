/-! the beginning of a run: the model's side whole -/
/-- the model's state to begin with: at its own cells, and at the class's that no run writes, it is σ -/
def MSt (σ σm : St) : Prop := ∀ k j, ¬ RunC k j → ¬ (k = 36 ∨ k = 37 ∨ (k = 30 ∧ j = 6) ∨ (k = 129 ∧ (j = 0 ∨ j = 1))) → σm k j = σ k j
/-- what the model's beginning leaves -/
def BegM (σ σm : St) (n : Int) (A L : Nat) (τ : St) : Prop := (∀ k j, ¬ RunM k j → ¬ ((k = 193 ∨ k = 194 ∨ k = 200) ∨ (k = 170 ∧ (j = 0 ∨ j = 48))) → τ k j = σm k j) ∧
  (τ 170 48 = (A : Int) ∧ τ 170 58 = 0 ∧ τ 170 60 = 0 ∧ τ 170 71 = 0) ∧ (∀ s t : Nat, s < 10 → t < 96 → Bb (τ 200 (96 * s + t)) (Wtch σ n s t)) ∧
  isDir (Edge σ (σ 1 5)) (fun a b => τ 193 (10 * a + b)) ∧ (∀ x y, x < 10 → y < 10 → τ 194 (10 * x + y) = nM σ x y) ∧
  (∀ i : Nat, i < 64 → τ 203 i = -1 ∧ τ 207 i = -1) ∧ (∀ s : Nat, s < 10 → τ 205 s = 0) ∧ (∀ i : Nat, i < 80 → τ 206 i = -1) ∧ ∀ b : Nat, b < A → FrB L b τ
theorem wtch_cg {σ σ' : St} {n : Int} (h : ∀ k j, 195 ≤ k → k ≤ 199 → σ' k j = σ k j) (s t : Nat) : Wtch σ' n s t ↔ Wtch σ n s t := by
  have e1 : σ' 195 = σ 195 := funext fun j => h 195 j (by omega) (by omega)
  have e2 : σ' 196 = σ 196 := funext fun j => h 196 j (by omega) (by omega)
  have e3 : σ' 197 = σ 197 := funext fun j => h 197 j (by omega) (by omega)
  have e4 : σ' 198 = σ 198 := funext fun j => h 198 j (by omega) (by omega)
  have e5 : σ' 199 = σ 199 := funext fun j => h 199 j (by omega) (by omega)
  unfold Wtch Strk
  rw [e1, e2, e3, e4, e5]
theorem edge_cg {σ σ' : St} (h : ∀ k j, (2 ≤ k ∧ k ≤ 4) ∨ (k = 1 ∧ j = 5) → σ' k j = σ k j) : Edge σ' (σ' 1 5) = Edge σ (σ 1 5) := by
  have e2 : σ' 2 = σ 2 := funext fun j => h 2 j (by omega)
  have e3 : σ' 3 = σ 3 := funext fun j => h 3 j (by omega)
  have e4 : σ' 4 = σ 4 := funext fun j => h 4 j (by omega)
  funext a b l
  unfold Edge
  rw [e2, e3, e4, h 1 5 (by omega)]
theorem nM_cg {σ σ' : St} {a b : Nat} (h : σ' (6 + a) b = σ (6 + a) b) : nM σ' a b = nM σ a b := by
  unfold nM
  rw [h]
theorem run_mdl {σ σm : St} {n : Int} {A : Nat} (hI : Inv σ) (hm : MSt σ σm) (hn : 0 ≤ n ∧ n ≤ σ 30 5) (hA : σ 0 6 = (A : Int)) :
    ∃ (L : Nat) (τ : St), L < 2 ∧ σ 170 17 = (L : Int) ∧ BegM σ σm n A L τ ∧ m_X12_run n σm = (lp (fun a => m_X12_run_L294 a) τ).bind fun σ74 => some (σ74 170 60, σ74) := by
  obtain ⟨k1, k2, k3, k4, k5, k6, k7, k8, k9, k10, k11⟩ := hI
  have a0 := k6.1
  have A8 : A ≤ 8 := by omega
  have b0 := k7.1
  obtain ⟨p1, p2, p3, p4, L, N, c, f, cx, cd, q1, q2, q3, q4, q5⟩ := k11
  have same : ∀ k j, ¬ (36 ≤ k ∧ k < 153) → ¬ (k = 30 ∧ j = 6) → σm k j = σ k j := fun k j n1 n2 => hm k j (by unfold RunC; omega) (by omega)
  have dT : iTown σm := dep_iTown σ σm (fun k j hk => same k j (by
      simp only [dTown, inR, inC, inS, List.any_cons, List.any_nil, Bool.or_false, Bool.or_eq_true, Bool.and_eq_true, Nat.ble_eq, Nat.beq_eq] at hk; omega) (by
      simp only [dTown, inR, inC, inS, List.any_cons, List.any_nil, Bool.or_false, Bool.or_eq_true, Bool.and_eq_true, Nat.ble_eq, Nat.beq_eq] at hk; omega)) k1
  have dN : iNear σm := dep_iNear σ σm (fun k j hk => same k j (by
      simp only [dNear, inR, inC, inS, List.any_cons, List.any_nil, Bool.or_false, Bool.or_eq_true, Bool.and_eq_true, Nat.ble_eq, Nat.beq_eq] at hk; omega) (by
      simp only [dNear, inR, inC, inS, List.any_cons, List.any_nil, Bool.or_false, Bool.or_eq_true, Bool.and_eq_true, Nat.ble_eq, Nat.beq_eq] at hk; omega)) k2
  have hE : Edge σm (σm 1 5) = Edge σ (σ 1 5) := edge_cg (fun k j h => same k j (by omega) (by omega))
  have up0 : ∀ k j, ¬ (k = 170 ∧ j = 0) → (up σm 170 0 0) k j = σm k j := fun k j n => by
    by_cases hk : k = 170
    · subst hk; rw [up_slot (by omega)]
    · rw [up_cell hk]
  have dT0 : iTown (up σm 170 0 0) := dep_iTown σm _ (fun k j hk => up0 k j (by
      simp only [dTown, inR, inC, inS, List.any_cons, List.any_nil, Bool.or_false, Bool.or_eq_true, Bool.and_eq_true, Nat.ble_eq, Nat.beq_eq] at hk; omega)) dT
  have dN0 : iNear (up σm 170 0 0) := dep_iNear σm _ (fun k j hk => up0 k j (by
      simp only [dNear, inR, inC, inS, List.any_cons, List.any_nil, Bool.or_false, Bool.or_eq_true, Bool.and_eq_true, Nat.ble_eq, Nat.beq_eq] at hk; omega)) dN
  have hE0 : Edge (up σm 170 0 0) ((up σm 170 0 0) 1 5) = Edge σ (σ 1 5) := (edge_cg (fun k j h => up0 k j (by omega))).trans hE
  obtain ⟨σ4, o4, hP⟩ := meas_sp dT0
  obtain ⟨w4, d1, d2⟩ := id hP
  have v4 : ∀ k j, ¬ (k = 193 ∨ k = 194) → ¬ (k = 170 ∧ j = 0) → σ4 k j = σm k j := fun k j n1 n2 => (w4 k j (by
      cases hc : inR ([(193, 194)], []) k j with
      | false => rfl
      | true =>
        exfalso
        simp only [inR, inC, inS, List.any_cons, List.any_nil, Bool.or_false, Bool.or_eq_true, Bool.and_eq_true, Nat.ble_eq, Nat.beq_eq] at hc
        omega)).trans (up0 k j n2)
  have dT4 : iTown σ4 := dep_iTown σm _ (fun k j hk => v4 k j (by
      simp only [dTown, inR, inC, inS, List.any_cons, List.any_nil, Bool.or_false, Bool.or_eq_true, Bool.and_eq_true, Nat.ble_eq, Nat.beq_eq] at hk; omega) (by
      simp only [dTown, inR, inC, inS, List.any_cons, List.any_nil, Bool.or_false, Bool.or_eq_true, Bool.and_eq_true, Nat.ble_eq, Nat.beq_eq] at hk; omega)) dT
  have dB4 : iBook σ4 := dep_iBook σ _ (fun k j hk => (v4 k j (by
      simp only [dBook, inR, inC, inS, List.any_cons, List.any_nil, Bool.or_false, Bool.or_eq_true, Bool.and_eq_true, Nat.ble_eq, Nat.beq_eq] at hk; omega) (by
      simp only [dBook, inR, inC, inS, List.any_cons, List.any_nil, Bool.or_false, Bool.or_eq_true, Bool.and_eq_true, Nat.ble_eq, Nat.beq_eq] at hk; omega)).trans (same k j (by
      simp only [dBook, inR, inC, inS, List.any_cons, List.any_nil, Bool.or_false, Bool.or_eq_true, Bool.and_eq_true, Nat.ble_eq, Nat.beq_eq] at hk; omega) (by
      simp only [dBook, inR, inC, inS, List.any_cons, List.any_nil, Bool.or_false, Bool.or_eq_true, Bool.and_eq_true, Nat.ble_eq, Nat.beq_eq] at hk; omega))) k7
  have e305 : σ4 30 5 = σ 30 5 := (v4 _ _ (by omega) (by omega)).trans (same _ _ (by omega) (by omega))
  obtain ⟨σ5, o5, w5, hPo⟩ := posts_sp (n := n) dB4 dT4 (by rw [e305]; exact hn)
  have v5 : ∀ k j, k ≠ 200 → σ5 k j = σ4 k j := fun k j n1 => w5 k j (by
      cases hc : inR ([(200, 200)], []) k j with
      | false => rfl
      | true =>
        exfalso
        simp only [inR, inC, inS, List.any_cons, List.any_nil, Bool.or_false, Bool.or_eq_true, Bool.and_eq_true, Nat.ble_eq, Nat.beq_eq] at hc
        omega)
  have e35 : σ5 170 35 = (A : Int) := by rw [v5 _ _ (by omega), v4 _ _ (by omega) (by omega), same _ _ (by omega) (by omega), a0.1, hA]
  obtain ⟨σ8, h8⟩ : ∃ σ8, σ8 = up (up (up σ5 170 48 (A : Int)) 170 58 0) 170 60 0 := ⟨_, rfl⟩
  have v8 : ∀ k j, ¬ (k = 170 ∧ (j = 48 ∨ j = 58 ∨ j = 60)) → σ8 k j = σ5 k j := fun k j n => by
    rw [h8]
    by_cases hk : k = 170
    · subst hk; rw [up_slot (by omega), up_slot (by omega), up_slot (by omega)]
    · rw [up_cell hk, up_cell hk, up_cell hk]
  obtain ⟨σ9, o9, w9, z9⟩ := run_44 (τ := σ8)
  obtain ⟨σa, oa, wa, za⟩ := run_79 (τ := σ9)
  obtain ⟨σb, ob, wb, zb⟩ := run_100 (τ := σa)
  have vb : ∀ k j, k ≠ 202 → k ≠ 203 → k ≠ 207 → k ≠ 205 → k ≠ 206 → σb k j = σ8 k j := fun k j n1 n2 n3 n4 n5 => ((wb k j n5).trans (wa k j n4)).trans (w9 k j n1 n2 n3)
  have vσ : ∀ k j, ¬ (36 ≤ k ∧ k < 153) → ¬ (k = 30 ∧ j = 6) → k ≠ 193 → k ≠ 194 → k ≠ 200 → k ≠ 202 → k ≠ 203 → k ≠ 207 → k ≠ 205 → k ≠ 206 → ¬ (k = 170 ∧ (j = 0 ∨ j = 48 ∨ j = 58 ∨ j = 60)) → σb k j = σ k j := fun k j m1 m2 m3 m4 m5 n1 n2 n3 n4 n5 n6 => ((((vb k j n1 n2 n3 n4 n5).trans (v8 k j (by omega))).trans (v5 k j m5)).trans (v4 k j (by omega) (by omega))).trans (same k j m1 m2)
  obtain ⟨σc, oc, wc, zc⟩ := run_121 (τ := σb) (L := L) (A := A) q2 A8
    (by rw [vσ _ _ (by omega) (by omega) (by omega) (by omega) (by omega) (by omega) (by omega) (by omega) (by omega) (by omega) (by omega), a0.1, hA])
    (by rw [vσ _ _ (by omega) (by omega) (by omega) (by omega) (by omega) (by omega) (by omega) (by omega) (by omega) (by omega) (by omega), q1])
    (fun i hi => by rw [wb _ _ (by omega), wa _ _ (by omega)]; exact (z9 i hi).1)
    (fun b hb => by
      rw [vσ _ _ (by omega) (by omega) (by omega) (by omega) (by omega) (by omega) (by omega) (by omega) (by omega) (by omega) (by omega)]
      obtain ⟨g1, g2, -⟩ := k6.2 b (by omega)
      rw [(g1 (by omega)).2.2]
      by_cases hz : σ (39 + 7 * b) 2 = -1
      · exact Or.inl hz
      · obtain ⟨c', hc'⟩ := Int.eq_ofNat_of_zero_le (show 0 ≤ σ (39 + 7 * b) 2 by omega)
        exact Or.inr ⟨c', hc', by omega⟩)
  refine ⟨L, up σc 170 71 0, q2, q1, ⟨?_, ⟨?_, ?_, ?_, ?_⟩, ?_, ?_, ?_, ?_, ?_, ?_, ?_⟩, ?_⟩
  · intro k j n1 n2
    unfold RunM at n1
    have h1 : σc k j = σm k j := (wc k j (by omega)).trans ((vb k j (by omega) (by omega) (by omega) (by omega) (by omega)).trans ((v8 k j (by omega)).trans ((v5 k j (by omega)).trans (v4 k j (by omega) (by omega)))))
    by_cases hk : k = 170
    · subst hk; rw [up_slot (by omega)]; exact h1
    · rw [up_cell hk]; exact h1
  · rw [up_slot (by omega), wc _ _ (by omega), vb _ _ (by omega) (by omega) (by omega) (by omega) (by omega), h8, up_slot (by omega), up_slot (by omega), up_eq]
  · rw [up_slot (by omega), wc _ _ (by omega), vb _ _ (by omega) (by omega) (by omega) (by omega) (by omega), h8, up_slot (by omega), up_eq]
  · rw [up_slot (by omega), wc _ _ (by omega), vb _ _ (by omega) (by omega) (by omega) (by omega) (by omega), h8, up_eq]
  · rw [up_eq]
  · intro s t hs ht
    obtain ⟨g1, g2⟩ := hPo s t hs ht
    rw [up_cell (by omega), wc _ _ (by omega), vb _ _ (by omega) (by omega) (by omega) (by omega) (by omega), v8 _ _ (by omega)]
    exact ⟨g1, g2.trans (wtch_cg (fun k j m1 m2 => (v4 k j (by omega) (by omega)).trans (same k j (by omega) (by omega))) s t)⟩
  · have e : (fun a b => (up σc 170 71 0) 193 (10 * a + b)) = (fun a b => σ4 193 (10 * a + b)) := by
      funext a b
      rw [up_cell (by omega), wc _ _ (by omega), vb _ _ (by omega) (by omega) (by omega) (by omega) (by omega), v8 _ _ (by omega), v5 _ _ (by omega)]
    rw [e, ← hE0]; exact d2
  · intro x y hx hy
    rw [up_cell (by omega), wc _ _ (by omega), vb _ _ (by omega) (by omega) (by omega) (by omega) (by omega), v8 _ _ (by omega), v5 _ _ (by omega), near_eq dT0 dN0 hP hx hy]
    exact nM_cg ((up0 _ _ (by omega)).trans (same _ _ (by omega) (by omega)))
  · intro i hi
    rw [up_cell (by omega), up_cell (by omega), wc _ _ (by omega), wc _ _ (by omega), wb _ _ (by omega), wb _ _ (by omega), wa _ _ (by omega), wa _ _ (by omega)]
    exact (z9 i hi).2
  · intro s hs
    rw [up_cell (by omega), wc _ _ (by omega), wb _ _ (by omega)]; exact za s hs
  · intro i hi
    rw [up_cell (by omega), wc _ _ (by omega)]; exact zb i hi
  · intro b hb
    obtain ⟨g1, ⟨g2, g3, g4, g5⟩, g6⟩ := zc b hb
    refine ⟨?_, ⟨?_, ?_, ?_, ?_⟩, ?_⟩
    · intro i hi; rw [up_cell (by omega), up_cell (by omega)]; exact g1 i hi
    · rw [up_cell (by omega)]; exact g2
    · rw [up_cell (by omega)]; exact g3
    · rw [up_cell (by omega)]; exact g4
    · rw [up_cell (by omega), up_cell (by omega)]; exact g5
    · rw [up_cell (k' := 192) (by omega), up_cell (k' := 211) (by omega), up_cell (k' := 208) (by omega), up_cell (k' := 212) (by omega)]
      rcases g6 with g6 | ⟨c', r1, r2, r3, r4⟩
      · exact Or.inl g6
      · exact Or.inr ⟨c', r1, r2, r3, by rw [up_cell (k' := 180) (by omega)]; exact r4⟩
  · have e41 : (up σm 170 0 0) 170 41 = σ 30 5 := by rw [up_slot (by omega), same _ _ (by omega) (by omega), b0.1]
    rw [m_X12_run, pt_s, bnd_s, m_isKnown_eq, e41, if_pos hn, bnd_s, if_neg (by decide), o4, bnd_s, o5, bnd_s, e35, pt_s, bnd_s, pt_s, bnd_s, pt_s, bnd_s, ← h8, o9, bnd_s, oa, bnd_s, ob, bnd_s, oc, bnd_s, pt_s, bnd_s]
