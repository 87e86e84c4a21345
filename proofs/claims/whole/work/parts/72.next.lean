/-! the next spot on the nearest way: class and model -/
/-- s is next to a on a nearest way to g -/
def Nxt (E : Nat → Nat → Int → Prop) (M : Nat → Nat → Int) (a g s : Nat) : Prop := s < 10 ∧ ∃ l, E a s l ∧ l + M s g = M a g
theorem nxt_ex {E : Nat → Nat → Int → Prop} {M : Nat → Nat → Int} (hE : isE E) (hM : isDM E M) {a g : Nat} (ha : a < 10) (hg : g < 10) (hne : a ≠ g) (hlt : M a g < 1000) : ∃ s, Nxt E M a g s := by
  obtain ⟨k, hk⟩ := hM.2.2.2 a g ha hg hlt
  cases k with
  | zero => exact absurd hk.1 hne
  | succ k =>
    obtain ⟨x, l1, l2, h1, h2, h3⟩ := hk
    have hx := (hE a x l1 h1).2.1
    have i1 := dm_le hE hM k x g l2 hx hg h2
    have i2 := hM.2.2.1 a x l1 g ha hx hg h1
    exact ⟨x, hx, l1, h1, by omega⟩
/-- the way to it is the nearest between the two -/
theorem nxt_len {E : Nat → Nat → Int → Prop} {M : Nat → Nat → Int} (hE : isE E) (hM : isDM E M) {a g s : Nat} (ha : a < 10) (hg : g < 10) {l : Int} (he : E a s l) (h : l + M s g = M a g) : M a s = l := by
  have hs := (hE a s l he).2.1
  have i1 := hM.2.2.1 a s l s ha hs hs he
  have i2 := hM.2.1 s hs
  have i3 := dm_tri hE hM ha hs hg
  omega
theorem edge_at {σ : St} {w a s : Nat} {n l : Int} (hw : (w : Int) < n) (h : WAt σ w s a) (hl : σ 4 w = l) : Edge σ n a s l := ⟨w, hw, hl, by rcases h with ⟨h1, h2⟩ | ⟨h1, h2⟩ <;> omega⟩
/-- the least found among the first j ways -/
def NxI (σ : St) (a g j : Nat) (v : Int) : Prop := (v = -1 ∧ ∀ w s : Nat, w < j → s < 10 → WAt σ w s a → σ 4 w + nM σ s g ≠ nM σ a g) ∨ (∃ s : Nat, v = (s : Int) ∧ Nxt (Edge σ (σ 1 5)) (nM σ) a g s ∧ ∀ w s' : Nat, w < j → s' < 10 → WAt σ w s' a → σ 4 w + nM σ s' g = nM σ a g → s ≤ s')
theorem nextSpot_sp {σ τ : St} {a g : Nat} (hT : iTown σ) (hN : iNear σ) (ha : (a : Int) < σ 1 4) (hg : (g : Int) < σ 1 4) (hne : a ≠ g) (hlt : nM σ a g < 1000) (hτ : ∀ k j, (2 ≤ k ∧ k ≤ 4) ∨ (6 ≤ k ∧ k ≤ 15) ∨ (k = 1 ∧ (j = 4 ∨ j = 5)) → τ k j = σ k j) :
    ∃ s : Nat, m_X10_nextSpot a g τ = some (s : Int) ∧ Nxt (Edge σ (σ 1 5)) (nM σ) a g s ∧ ∀ s', Nxt (Edge σ (σ 1 5)) (nM σ) a g s' → s ≤ s' := by
  have t1 := hT.1
  have t2 := hT.2.1
  have hE := town_isE hT (Int.le_refl (σ 1 5))
  have f14 : τ 1 4 = σ 1 4 := hτ 1 4 (by omega)
  have f15 : τ 1 5 = σ 1 5 := hτ 1 5 (by omega)
  have hag := hN.2 a g (by omega) (by omega)
  have hagm : nM σ a g = σ (6 + a) g := by
    unfold nM at hlt ⊢
    split
    next q => rw [if_pos q] at hlt; omega
    next q => rfl
  have h : Hp (m_X10_nextSpot a g τ) (fun v => ∃ s : Nat, v = (s : Int) ∧ Nxt (Edge σ (σ 1 5)) (nM σ) a g s ∧ ∀ s', Nxt (Edge σ (σ 1 5)) (nM σ) a g s' → s ≤ s') := by
    rw [m_X10_nextSpot, Hp_bind]
    simp only [Hp_some]
    refine Hp_up (fun j (z : Int × Int) => z.2 = (j : Int) ∧ NxI σ a g j z.1) 0 (σ 1 5).toNat (by omega) (by omega) ⟨rfl, Or.inl ⟨rfl, fun w s h => by omega⟩⟩ ?_ ?_
    · rintro j ⟨v, x⟩ - hj ⟨e1, e2⟩
      simp only at e1 e2
      subst e1
      obtain ⟨A, B, L, h2, h3, h4, -, -, -, hA, hB, hAB, l1, l9, g1, g2⟩ := town_way hT (w := j) (by omega)
      -- the other end, if there is one
      have hskip : (∀ s, s < 10 → WAt σ j s a → σ 4 j + nM σ s g ≠ nM σ a g) → Hp (some (Sum.inl (v, wr ((j : Int) + 1)))) (Lq (fun v => ∃ s : Nat, v = (s : Int) ∧ Nxt (Edge σ (σ 1 5)) (nM σ) a g s ∧ ∀ s', Nxt (Edge σ (σ 1 5)) (nM σ) a g s' → s ≤ s') (fun (z : Int × Int) => z.2 = ((j + 1 : Nat) : Int) ∧ NxI σ a g (j + 1) z.1)) := by
        intro hn
        rw [Hp_some, Lq_inl, nx1 (by omega)]
        refine ⟨rfl, ?_⟩
        rcases e2 with ⟨q1, q2⟩ | ⟨s, q1, q2, q3⟩
        · refine Or.inl ⟨q1, fun w s hw hs hW => ?_⟩
          by_cases hwj : w = j
          · subst hwj; exact hn s hs hW
          · exact q2 w s (by omega) hs hW
        · refine Or.inr ⟨s, q1, q2, fun w s' hw hs hW he => ?_⟩
          by_cases hwj : w = j
          · subst hwj; exact absurd he (hn s' hs hW)
          · exact q3 w s' (by omega) hs hW he
      have main : ∀ o : Nat, o < 10 → (o : Int) < σ 1 4 → WAt σ j o a → (∀ o', WAt σ j o' a → o' = o) → m_X10_otherEnd j a τ = some (o : Int) → Hp (m_X10_nextSpot_L5 τ a g v j) (Lq (fun v => ∃ s : Nat, v = (s : Int) ∧ Nxt (Edge σ (σ 1 5)) (nM σ) a g s ∧ ∀ s', Nxt (Edge σ (σ 1 5)) (nM σ) a g s' → s ≤ s') (fun (z : Int × Int) => z.2 = ((j + 1 : Nat) : Int) ∧ NxI σ a g (j + 1) z.1)) := by
        intro o ho hos hW huq hoe
        have hog := hN.2 o g ho (by omega)
        rw [m_X10_nextSpot_L5, if_neg (by omega), hoe, bnd_s, lenB_eq (by omega), f14, if_pos (show (0 ≤ (o : Int) ∧ (o : Int) < σ 1 4) ∧ (0 ≤ (g : Int) ∧ (g : Int) < σ 1 4) by omega), bnd_s]
        simp only [Int.toNat_natCast]
        have eo : τ (6 + o) g = σ (6 + o) g := hτ (6 + o) g (by omega)
        simp only [eo]
        by_cases hz : σ (6 + o) g = -1
        · rw [if_pos hz]
          refine hskip ?_
          intro s hs hWs he
          have := huq s hWs
          subst this
          have e3 : nM σ s g = 1000 := by unfold nM; rw [if_pos hz]
          omega
        · have e3 : nM σ o g = σ (6 + o) g := by unfold nM; rw [if_neg hz]
          rw [if_neg hz, rd_ok (by omega) (by omega), bnd_s, Int.toNat_natCast, hτ 4 j (by omega), lenB_eq (by omega), f14, if_pos (show (0 ≤ (a : Int) ∧ (a : Int) < σ 1 4) ∧ (0 ≤ (g : Int) ∧ (g : Int) < σ 1 4) by omega), bnd_s]
          simp only [Int.toNat_natCast]
          have ea : τ (6 + a) g = σ (6 + a) g := hτ (6 + a) g (by omega)
          have ew : wr (σ 4 j + σ (6 + o) g) = σ 4 j + σ (6 + o) g := wr_id' (by omega) (by omega)
          simp only [ea, ew]
          by_cases hc : σ 4 j + σ (6 + o) g = σ (6 + a) g
          · rw [if_pos hc]
            have hnx : Nxt (Edge σ (σ 1 5)) (nM σ) a g o := ⟨ho, σ 4 j, edge_at (by omega) hW rfl, by rw [e3, hagm]; exact hc⟩
            have hset : ((v = -1) ∨ ∃ s : Nat, v = (s : Int) ∧ ¬ s ≤ o) → Hp (some (Sum.inl ((o : Int), wr ((j : Int) + 1)))) (Lq (fun v => ∃ s : Nat, v = (s : Int) ∧ Nxt (Edge σ (σ 1 5)) (nM σ) a g s ∧ ∀ s', Nxt (Edge σ (σ 1 5)) (nM σ) a g s' → s ≤ s') (fun (z : Int × Int) => z.2 = ((j + 1 : Nat) : Int) ∧ NxI σ a g (j + 1) z.1)) := by
              intro hv
              rw [Hp_some, Lq_inl, nx1 (by omega)]
              refine ⟨rfl, Or.inr ⟨o, rfl, hnx, fun w s' hw hs hWs he => ?_⟩⟩
              by_cases hwj : w = j
              · subst hwj
                have := huq s' hWs
                omega
              · rcases e2 with ⟨q1, q2⟩ | ⟨s, q1, q2, q3⟩
                · exact absurd he (q2 w s' (by omega) hs hWs)
                · have := q3 w s' (by omega) hs hWs he
                  rcases hv with r | ⟨s2, r1, r2⟩ <;> omega
            by_cases hv1 : v = -1
            · rw [if_pos hv1]; exact hset (Or.inl hv1)
            · rw [if_neg hv1]
              rcases e2 with ⟨q1, q2⟩ | ⟨s, q1, q2, q3⟩
              · exact absurd q1 hv1
              · by_cases hle : v ≤ (o : Int)
                · rw [if_pos hle, Hp_some, Lq_inl, nx1 (by omega)]
                  refine ⟨rfl, Or.inr ⟨s, q1, q2, fun w s' hw hs hWs he => ?_⟩⟩
                  by_cases hwj : w = j
                  · subst hwj
                    have := huq s' hWs
                    omega
                  · exact q3 w s' (by omega) hs hWs he
                · rw [if_neg hle]; exact hset (Or.inr ⟨s, q1, by omega⟩)
          · rw [if_neg hc]
            refine hskip ?_
            intro s hs hWs he
            have := huq s hWs
            subst this
            rw [e3, hagm] at he
            exact hc he
      by_cases hA' : A = a
      · subst hA'
        refine main B hB g2 (Or.inr ⟨h2, h3⟩) ?_ ?_
        · rintro o' (⟨q1, q2⟩ | ⟨q1, q2⟩) <;> omega
        · rw [m_X10_otherEnd, rd_ok (by omega) (by omega), bnd_s, Int.toNat_natCast, hτ 2 j (by omega), h2, if_pos rfl, rd_ok (by omega) (by omega), bnd_s, Int.toNat_natCast, hτ 3 j (by omega), h3]
      · by_cases hB' : B = a
        · subst hB'
          refine main A hA g1 (Or.inl ⟨h2, h3⟩) ?_ ?_
          · rintro o' (⟨q1, q2⟩ | ⟨q1, q2⟩) <;> omega
          · rw [m_X10_otherEnd, rd_ok (by omega) (by omega), bnd_s, Int.toNat_natCast, hτ 2 j (by omega), h2, if_neg (by omega), rd_ok (by omega) (by omega), bnd_s, Int.toNat_natCast, hτ 3 j (by omega), h3, if_pos rfl, bnd_s]
        · have hoe : m_X10_otherEnd j a τ = some (-1) := by
            rw [m_X10_otherEnd, rd_ok (by omega) (by omega), bnd_s, Int.toNat_natCast, hτ 2 j (by omega), h2, if_neg (by omega), rd_ok (by omega) (by omega), bnd_s, Int.toNat_natCast, hτ 3 j (by omega), h3, if_neg (by omega)]
          simp only [m_X10_nextSpot_L5]
          rw [if_neg (by omega), hoe, bnd_s, lenB_eq (by omega), if_neg (show ¬ ((0 ≤ (-1 : Int) ∧ (-1 : Int) < τ 1 4) ∧ (0 ≤ (g : Int) ∧ (g : Int) < τ 1 4)) by omega), bnd_s, if_pos rfl]
          refine hskip ?_
          rintro s hs (⟨q1, q2⟩ | ⟨q1, q2⟩) <;> omega
    · rintro ⟨v, x⟩ ⟨e1, e2⟩
      simp only at e1 e2
      subst e1
      simp only [m_X10_nextSpot_L5]
      rw [if_pos (by omega), Hp_some, Lq_inr]
      rcases e2 with ⟨q1, q2⟩ | ⟨s, q1, q2, q3⟩
      · obtain ⟨s, h1, l, ⟨w, w1, w2, w3⟩, h2⟩ := nxt_ex hE hN.1 (a := a) (g := g) (by omega) (by omega) hne hlt
        exfalso
        refine q2 w s (by omega) h1 ?_ (by rw [w2]; exact h2)
        rcases w3 with ⟨r1, r2⟩ | ⟨r1, r2⟩
        · exact Or.inr ⟨r1, r2⟩
        · exact Or.inl ⟨r1, r2⟩
      · refine ⟨s, q1, q2, ?_⟩
        rintro s' ⟨h1, l, ⟨w, w1, w2, w3⟩, h2⟩
        refine q3 w s' (by omega) h1 ?_ (by rw [w2]; exact h2)
        rcases w3 with ⟨r1, r2⟩ | ⟨r1, r2⟩
        · exact Or.inr ⟨r1, r2⟩
        · exact Or.inl ⟨r1, r2⟩
  obtain ⟨v, h1, s, h2, h3⟩ := h
  exact ⟨s, by rw [h1, h2], h3⟩
theorem onward_sp {σ τ : St} {a g : Nat} {M : Nat → Nat → Int} (hT : iTown σ) (hM : isDM (Edge σ (σ 1 5)) M) (ha : (a : Int) < σ 1 4) (hg : (g : Int) < σ 1 4) (hne : a ≠ g) (hlt : M a g < 1000) (h30 : τ 170 30 = σ 1 4) (h193 : isDir (Edge σ (σ 1 5)) (fun a b => τ 193 (10 * a + b))) (h194 : ∀ x y, x < 10 → y < 10 → τ 194 (10 * x + y) = M x y) :
    ∃ s : Nat, m_X12_onward a g τ = some (s : Int) ∧ Nxt (Edge σ (σ 1 5)) M a g s ∧ (∀ s', Nxt (Edge σ (σ 1 5)) M a g s' → s ≤ s') ∧ τ 193 (10 * a + s) = M a s := by
  have t1 := hT.1
  have hE := town_isE hT (Int.le_refl (σ 1 5))
  -- what the model tests
  have key : ∀ s : Nat, s < 10 → ((s ≠ a ∧ τ 193 (10 * a + s) < 1000 ∧ τ 193 (10 * a + s) + M s g = M a g) ↔ Nxt (Edge σ (σ 1 5)) M a g s) := by
    intro s hs
    obtain ⟨d1, d2, d3, d4⟩ := h193 a s (by omega) hs
    simp only at d1 d2 d3
    constructor
    · rintro ⟨q1, q2, q3⟩
      rcases d1 with d1 | d1
      · omega
      · exact ⟨hs, _, d1, q3⟩
    · rintro ⟨-, l, he, hl⟩
      have i1 := d3 l he
      have hl9 := hE a s l he
      rcases d1 with d1 | d1
      · omega
      · have i2 := hM.2.2.1 a s _ g (by omega) hs (by omega) d1
        refine ⟨?_, by omega, by omega⟩
        rintro rfl
        omega
  have h : Hp (m_X12_onward a g τ) (fun v => ∃ s : Nat, v = (s : Int) ∧ Nxt (Edge σ (σ 1 5)) M a g s ∧ (∀ s', Nxt (Edge σ (σ 1 5)) M a g s' → s ≤ s') ∧ τ 193 (10 * a + s) = M a s) := by
    rw [m_X12_onward, Hp_bind]
    refine Hp_up (fun j (x : Int) => x = (j : Int) ∧ ∀ s, s < j → ¬ Nxt (Edge σ (σ 1 5)) M a g s) 0 (σ 1 4).toNat (by omega) (by omega) ⟨rfl, fun s h => by omega⟩ ?_ ?_
    · rintro j x - hj ⟨e1, e2⟩
      subst e1
      have hj10 : j < 10 := by omega
      have hk := key j hj10
      have hskip : ¬ Nxt (Edge σ (σ 1 5)) M a g j → Lq (fun (b : Unit ⊕ Int) => Hp (match b with | .inl () => some (-1) | .inr q => some q) (fun v => ∃ s : Nat, v = (s : Int) ∧ Nxt (Edge σ (σ 1 5)) M a g s ∧ (∀ s', Nxt (Edge σ (σ 1 5)) M a g s' → s ≤ s') ∧ τ 193 (10 * a + s) = M a s)) (fun x => x = ((j + 1 : Nat) : Int) ∧ ∀ s, s < j + 1 → ¬ Nxt (Edge σ (σ 1 5)) M a g s) (Sum.inl (wr ((j : Int) + 1))) := by
        intro hn
        rw [Lq_inl, nx1 (by omega)]
        refine ⟨rfl, fun s hs => ?_⟩
        by_cases hsj : s = j
        · subst hsj; exact hn
        · exact e2 s (by omega)
      have d := (h193 a j (by omega) hj10)
      have d2 := d.2.1
      simp only at d2
      simp only [m_X12_onward_L2]
      rw [if_neg (by omega)]
      by_cases h1 : (j : Int) = (a : Int)
      · rw [if_pos h1, Hp_some]
        exact hskip (fun q => (hk.mpr q).1 (by omega))
      · rw [if_neg h1, ix10 (by omega) (by omega), rd_ok (by omega) (by omega), bnd_s, Int.toNat_natCast]
        by_cases h2 : 1000 ≤ τ 193 (10 * a + j)
        · rw [if_pos h2, Hp_some]
          exact hskip (fun q => by have := (hk.mpr q).2.1; omega)
        · have dlow : 0 ≤ τ 193 (10 * a + j) := by
            have := d.1
            simp only at this
            rcases this with q | q
            · omega
            · have := hE _ _ _ q; omega
          have m1 := hM.1 j g hj10 (by omega)
          rw [if_neg h2, bnd_s, ix10 (by omega) (by omega), rd_ok (by omega) (by omega), bnd_s, Int.toNat_natCast, ix10 (by omega) (by omega), rd_ok (by omega) (by omega), bnd_s, Int.toNat_natCast, h194 j g hj10 (by omega), h194 a g (by omega) (by omega), wr_id' (by omega) (by omega)]
          by_cases h3 : τ 193 (10 * a + j) + M j g = M a g
          · rw [if_pos h3, Hp_some, Lq_inr]
            simp only [Hp_some]
            have hn := hk.mp ⟨by omega, by omega, h3⟩
            refine ⟨j, by trivial, hn, ?_, ?_⟩
            · intro s' hs'
              by_cases hlt' : s' < j
              · exact absurd hs' (e2 s' hlt')
              · omega
            · have := d.1
              simp only at this
              rcases this with q | q
              · omega
              · exact (nxt_len hE hM (by omega) (by omega) q h3).symm
          · rw [if_neg h3, Hp_some]
            exact hskip (fun q => h3 (hk.mpr q).2.2)
    · rintro x ⟨e1, e2⟩
      subst e1
      exfalso
      obtain ⟨s, hs⟩ := nxt_ex hE hM (a := a) (g := g) (by omega) (by omega) hne hlt
      obtain ⟨h1, l, ⟨w, w1, w2, w3⟩, h2⟩ := hs
      obtain ⟨A, B, L, g2, g3, g4, -, -, -, -, -, -, m1, m9, g5, g6⟩ := town_way hT w1
      exact e2 s (by omega) ⟨h1, l, ⟨w, w1, w2, w3⟩, h2⟩
  obtain ⟨v, h1, s, h2, h3⟩ := h
  exact ⟨s, by rw [h1, h2], h3⟩
