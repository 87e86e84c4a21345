/-! how a word goes round: the model's way -/
theorem ixh {a d s : Nat} (ha : a < 10) (hd : d < 200) (hs : s < 20) : wr (wr (wr (960 * (a : Int)) + wr (10 * (d : Int))) + (s : Int)) = ((960 * a + 10 * d + s : Nat) : Int) := by
  rw [wr_id' (x := 960 * (a : Int)) (by omega) (by omega), wr_id' (x := 10 * (d : Int)) (by omega) (by omega), wr_id' (x := 960 * (a : Int) + 10 * (d : Int)) (by omega) (by omega), wr_id' (by omega) (by omega)]; omega
/-- where agents can be, as the model has it -/
def MC (c : Ky) (τ : St) : Prop := Lk c.1 τ ∧ τ 170 35 = (c.2.2.1 : Int) ∧ ∀ a, a < c.2.2.1 → GoA c.1 τ c.2.1 a
theorem MC_step {c : Ky} {τ τ' : St} (h : MC c τ) (hw : Wr ([(226, 227)], []) τ τ') : MC c τ' := by
  obtain ⟨h1, h2, h3⟩ := h
  refine ⟨?_, (hw 170 35 rfl).trans h2, ?_⟩
  · intro k j hk
    rw [← h1 k j hk]
    rcases hk with q | q | q | ⟨q, q' | q'⟩
    · subst q; exact hw _ _ rfl
    · subst q; exact hw _ _ rfl
    · subst q; exact hw _ _ rfl
    · subst q; subst q'; exact hw _ _ rfl
    · subst q; subst q'; exact hw _ _ rfl
  · intro a ha
    refine ⟨fun d hd => ?_, fun d s hd hs => ?_⟩
    · rw [hw 225 _ rfl]; exact (h3 a ha).1 d hd
    · rw [hw 221 _ rfl]; exact (h3 a ha).2 d s hd hs
/-- carried on -/
def Cr (c : Ky) (v a s : Nat) : Prop := (1 ≤ v ∧ Hh c (v - 1) a s) ∨ ∃ o l, (1 ≤ l ∧ l ≤ v) ∧ Way c.1 s o l ∧ cUn c a (c.2.2.2.2.2 + (v - l)) l ∧ Hh c (v - l) a o
theorem Pg_cr (c : Ky) (v a s : Nat) : Pg c v v a s ↔ cCan c a (c.2.2.2.2.2 + v) s ∧ (c.2.2.2.1 a ∨ Cr c v a s) := by
  unfold Pg Cr
  constructor
  · rintro ⟨q1, (q2 | ⟨q2, q3, q4⟩ | ⟨o, l, ⟨q2, q3, q4⟩, q5⟩)⟩
    · exact ⟨q1, Or.inl q2⟩
    · exact ⟨q1, Or.inr (Or.inl ⟨q2, q4⟩)⟩
    · exact ⟨q1, Or.inr (Or.inr ⟨o, l, ⟨q2, q3⟩, q5⟩)⟩
  · rintro ⟨q1, (q2 | ⟨q2, q4⟩ | ⟨o, l, ⟨q2, q3⟩, q5⟩)⟩
    · exact ⟨q1, Or.inl q2⟩
    · exact ⟨q1, Or.inr (Or.inl ⟨q2, Nat.le_refl _, q4⟩)⟩
    · exact ⟨q1, Or.inr (Or.inr ⟨o, l, ⟨q2, q3, by omega⟩, q5⟩)⟩
theorem carries_sp {c : Ky} {τ : St} {v a s : Nat} (hT : iTown c.1) (hA : c.2.2.1 ≤ 8) (hM : MC c τ) (ha : a < c.2.2.1) (hv : c.2.2.2.2.2 + v < 96) (hs : s < 10) (hH : ∀ u s', u < v → s' < 10 → Bb (τ 226 (960 * a + 10 * (c.2.2.2.2.2 + u) + s')) (Hh c u a s')) :
    ∃ b, m_X12_carries a ((c.2.2.2.2.2 + v : Nat) : Int) s (c.2.2.2.2.2 : Int) τ = some b ∧ Bb b (Cr c v a s) := by
  have h : Hp (m_X12_carries a ((c.2.2.2.2.2 + v : Nat) : Int) s (c.2.2.2.2.2 : Int) τ) (fun b => Bb b (Cr c v a s)) := by
    rw [m_X12_carries]
    by_cases hv0 : ((c.2.2.2.2.2 + v : Nat) : Int) = (c.2.2.2.2.2 : Int)
    · rw [if_pos hv0, Hp_some]
      refine Bb_0 ?_
      rintro (⟨q, -⟩ | ⟨o, l, ⟨q1, q2⟩, -⟩) <;> omega
    · rw [if_neg hv0]
      have hix : wr (wr (wr (wr (960 * (a : Int)) + wr (10 * ((c.2.2.2.2.2 + v : Nat) : Int))) - 10) + (s : Int)) = ((960 * a + 10 * (c.2.2.2.2.2 + (v - 1)) + s : Nat) : Int) := by
        rw [wr_id' (x := 960 * (a : Int)) (by omega) (by omega), wr_id' (x := 10 * ((c.2.2.2.2.2 + v : Nat) : Int)) (by omega) (by omega), wr_id' (x := 960 * (a : Int) + 10 * ((c.2.2.2.2.2 + v : Nat) : Int)) (by omega) (by omega), wr_id' (x := 960 * (a : Int) + 10 * ((c.2.2.2.2.2 + v : Nat) : Int) - 10) (by omega) (by omega), wr_id' (by omega) (by omega)]; omega
      rw [hix, rd_ok (by omega) (by omega), bnd_s, Int.toNat_natCast]
      have hp := hH (v - 1) s (by omega) hs
      by_cases hz : τ 226 (960 * a + 10 * (c.2.2.2.2.2 + (v - 1)) + s) = 0
      · rw [if_pos hz, Hp_bind]
        have hno := (Bb_ne hp).mp hz
        obtain ⟨hL, h35, hG⟩ := hM
        have t2 := hT.2.1
        have f31 : τ 170 31 = c.1 1 5 := (hL 170 31 (by omega)).trans t2.1
        refine Hp_up (fun j (x : Int) => x = (j : Int) ∧ ¬ ∃ w : Nat, w < j ∧ ∃ o, WAt c.1 w s o ∧ (c.1 4 w).toNat ≤ v ∧ cUn c a (c.2.2.2.2.2 + (v - (c.1 4 w).toNat)) (c.1 4 w).toNat ∧ Hh c (v - (c.1 4 w).toNat) a o) 0 (c.1 1 5).toNat (by omega) (by omega) ⟨rfl, fun ⟨w, h, _⟩ => by omega⟩ ?_ ?_
        · rintro j x - hj ⟨e1, e2⟩
          subst e1
          obtain ⟨AA, BB, L, e2', e3, e4, e187, e188, e189, hAA, hBB, hAB, l1, l9, -⟩ := town_way hT (w := j) (by omega)
          have f187 : τ 187 j = AA := (hL 187 j (by omega)).trans e187
          have f188 : τ 188 j = BB := (hL 188 j (by omega)).trans e188
          have f189 : τ 189 j = L := (hL 189 j (by omega)).trans e189
          have eL : (c.1 4 j).toNat = L.toNat := by omega
          have hgo : ¬ (∃ o, WAt c.1 j s o ∧ (c.1 4 j).toNat ≤ v ∧ cUn c a (c.2.2.2.2.2 + (v - (c.1 4 j).toNat)) (c.1 4 j).toNat ∧ Hh c (v - (c.1 4 j).toNat) a o) → Lq (fun (b : Unit ⊕ Int) => Hp (match b with | .inl () => some 0 | .inr q => some q) (fun b => Bb b (Cr c v a s))) (fun x => x = ((j + 1 : Nat) : Int) ∧ ¬ ∃ w : Nat, w < j + 1 ∧ ∃ o, WAt c.1 w s o ∧ (c.1 4 w).toNat ≤ v ∧ cUn c a (c.2.2.2.2.2 + (v - (c.1 4 w).toNat)) (c.1 4 w).toNat ∧ Hh c (v - (c.1 4 w).toNat) a o) (Sum.inl (wr ((j : Int) + 1))) := by
            intro hn
            rw [Lq_inl, nx1 (by omega)]
            refine ⟨rfl, ?_⟩
            rintro ⟨w, hw, q⟩
            by_cases hwj : w = j
            · subst hwj; exact hn q
            · exact e2 ⟨w, by omega, q⟩
          have hJ : ∀ o : Nat, o < 10 → WAt c.1 j s o → ((AA : Int) + BB - s = o) → (∀ o', WAt c.1 j s o' → o' = o) → Hp (m_X12_carries_J70 τ j s ((c.2.2.2.2.2 + v : Nat) : Int) (c.2.2.2.2.2 : Int) a) (Lq (fun (b : Unit ⊕ Int) => Hp (match b with | .inl () => some 0 | .inr q => some q) (fun b => Bb b (Cr c v a s))) (fun x => x = ((j + 1 : Nat) : Int) ∧ ¬ ∃ w : Nat, w < j + 1 ∧ ∃ o, WAt c.1 w s o ∧ (c.1 4 w).toNat ≤ v ∧ cUn c a (c.2.2.2.2.2 + (v - (c.1 4 w).toNat)) (c.1 4 w).toNat ∧ Hh c (v - (c.1 4 w).toNat) a o)) := by
            intro o ho hW hsum huq
            rw [m_X12_carries_J70, rd_ok (by omega) (by omega), bnd_s, rd_ok (by omega) (by omega), bnd_s]
            simp only [vl, bnd_s, Int.toNat_natCast]
            rw [f187, f188, rd_ok (by omega) (by omega), bnd_s, bnd_s]
            simp only [Int.toNat_natCast]
            rw [f189, wr_id' (x := (AA : Int) + BB) (by omega) (by omega), wr_id' (x := (AA : Int) + BB - s) (by omega) (by omega), hsum, wr_id' (x := ((c.2.2.2.2.2 + v : Nat) : Int) - L) (by omega) (by omega)]
            by_cases hlt : ((c.2.2.2.2.2 + v : Nat) : Int) - L < (c.2.2.2.2.2 : Int)
            · rw [if_pos hlt, Hp_some]
              refine hgo ?_
              rintro ⟨o', -, q, -⟩
              omega
            · rw [if_neg hlt]
              have ed : ((c.2.2.2.2.2 + v : Nat) : Int) - L = ((c.2.2.2.2.2 + (v - L.toNat) : Nat) : Int) := by omega
              rw [ed, ixh (by omega) (by omega) (by omega), rd_ok (by omega) (by omega), bnd_s, Int.toNat_natCast]
              have hb := hH (v - L.toNat) o (by omega) ho
              by_cases hz2 : τ 226 (960 * a + 10 * (c.2.2.2.2.2 + (v - L.toNat)) + o) = 0
              · rw [if_pos hz2, Hp_some]
                refine hgo ?_
                rintro ⟨o', q1, -, -, q2⟩
                have := huq o' q1
                subst this
                rw [eL] at q2
                exact (Bb_ne hb).mp hz2 q2
              · rw [if_neg hz2]
                obtain ⟨cc, c1, c2⟩ := isFree_sp (σ := c.1) (τ := τ) (n := c.2.1) (a := a) (t := c.2.2.2.2.2 + (v - L.toNat)) (l := L.toNat) (by omega) (by omega) (by omega) (hG a ha).1
                rw [show L = ((L.toNat : Nat) : Int) by omega]
                rw [show ((L.toNat : Nat) : Int).toNat = L.toNat by omega, c1, bnd_s]
                by_cases hc : cc = 0
                · rw [if_pos hc, Hp_some]
                  refine hgo ?_
                  rintro ⟨o', -, -, q, -⟩
                  rw [eL] at q
                  exact (Bb_ne c2).mp hc q
                · rw [if_neg hc, Hp_some, Lq_inr]
                  simp only [Hp_some]
                  refine Bb_1 (Or.inr ⟨o, L.toNat, ⟨by omega, by omega⟩, ?_, ?_, ?_⟩)
                  · rw [way_iff hT]; exact ⟨j, by omega, hW, by omega⟩
                  · exact c2.2.mp (by have := c2.1; omega)
                  · exact hb.2.mp (by have := hb.1; omega)
          simp only [m_X12_carries_L36]
          rw [if_neg (by omega), rd_ok (by omega) (by omega), bnd_s, Int.toNat_natCast, f187]
          by_cases h1 : (AA : Int) = s
          · rw [if_pos h1]
            refine hJ BB hBB (Or.inl ⟨by omega, by omega⟩) (by omega) ?_
            rintro o' (⟨q1, q2⟩ | ⟨q1, q2⟩) <;> omega
          · rw [if_neg h1, rd_ok (by omega) (by omega), bnd_s, Int.toNat_natCast, f188]
            by_cases h2 : (BB : Int) = s
            · rw [if_pos h2]
              refine hJ AA hAA (Or.inr ⟨by omega, by omega⟩) (by omega) ?_
              rintro o' (⟨q1, q2⟩ | ⟨q1, q2⟩) <;> omega
            · rw [if_neg h2, Hp_some]
              refine hgo ?_
              rintro ⟨o', (⟨q1, q2⟩ | ⟨q1, q2⟩), -⟩ <;> omega
        · rintro x ⟨e1, e2⟩
          subst e1
          simp only [m_X12_carries_L36]
          rw [if_pos (by omega), Hp_some, Lq_inr]
          simp only [Hp_some]
          refine Bb_0 ?_
          rintro (⟨q1, q2⟩ | ⟨o, l, ⟨q1, q2⟩, q3, q4, q5⟩)
          · exact hno q2
          · rw [way_iff hT] at q3
            obtain ⟨w, w1, w2, w3⟩ := q3
            have el : (c.1 4 w).toNat = l := by omega
            exact e2 ⟨w, by omega, o, w2, by omega, by rw [el]; exact q4, by rw [el]; exact q5⟩
      · rw [if_neg hz, Hp_some]
        exact Bb_1 (Or.inl ⟨by omega, hp.2.mp (by have := hp.1; omega)⟩)
  obtain ⟨b, h1, h2⟩ := h
  exact ⟨b, h1, h2⟩
/-- the model's rows between two ticks: v ticks are done -/
def MsI (c : Ky) (v : Nat) (τ : St) : Prop := MC c τ ∧ (∀ a u s, a < c.2.2.1 → u < v → c.2.2.2.2.2 + u < 96 → s < 10 → Bb (τ 226 (960 * a + 10 * (c.2.2.2.2.2 + u) + s)) (Hh c u a s)) ∧
  (∀ a u s, a < c.2.2.1 → v ≤ u → c.2.2.2.2.2 + u < 96 → s < 10 → τ 226 (960 * a + 10 * (c.2.2.2.2.2 + u) + s) = 0) ∧ (c.2.2.2.2.1 → ∀ s, s < 10 → Bb (τ 227 s) (1 ≤ v ∧ Hd c (v - 1) s))
theorem spr_s {c : Ky} {τ0 : St} {v a : Nat} {set : Int} (hT : iTown c.1) (hA : c.2.2.1 ≤ 8) (hv : c.2.2.2.2.2 + v < 96) (ha : a < c.2.2.1) (hS : ∀ a, c.2.2.2.1 a ↔ tb set a = true) (hM : MC c τ0) (hH : ∀ u s', u < v → s' < 10 → Bb (τ0 226 (960 * a + 10 * (c.2.2.2.2.2 + u) + s')) (Hh c u a s')) (hz : ∀ s, s < 10 → τ0 226 (960 * a + 10 * (c.2.2.2.2.2 + v) + s) = 0) :
    Hp (lp (fun z => m_X12_spreads_L74 a ((c.2.2.2.2.2 + v : Nat) : Int) set (c.2.2.2.2.2 : Int) z.1 z.2) (0, τ0)) (fun τ => Wr ([(226, 226)], []) τ0 τ ∧ (∀ i, (∀ s, s < 10 → i ≠ 960 * a + 10 * (c.2.2.2.2.2 + v) + s) → τ 226 i = τ0 226 i) ∧ ∀ s, s < 10 → Bb (τ 226 (960 * a + 10 * (c.2.2.2.2.2 + v) + s)) (Pg c v v a s)) := by
  have t1 := hT.1
  refine Hp_up (fun j (z : Int × St) => z.1 = (j : Int) ∧ Wr ([(226, 226)], []) τ0 z.2 ∧ (∀ i, (∀ s, s < 10 → i ≠ 960 * a + 10 * (c.2.2.2.2.2 + v) + s) → z.2 226 i = τ0 226 i) ∧ (∀ s, s < j → Bb (z.2 226 (960 * a + 10 * (c.2.2.2.2.2 + v) + s)) (Pg c v v a s)) ∧ ∀ s, j ≤ s → s < 10 → z.2 226 (960 * a + 10 * (c.2.2.2.2.2 + v) + s) = 0) 0 (c.1 1 4).toNat (by omega) (by omega) ⟨rfl, Wr_rf, fun _ _ => rfl, fun s h => by omega, fun s _ h => hz s h⟩ ?_ ?_
  · rintro s ⟨x, τ⟩ - hs ⟨e1, e2, e3, e4, e5⟩
    simp only at e1 e2 e3 e4 e5
    subst e1
    have hs10 : s < 10 := by omega
    have hM' := MC_step hM (Wr_sb e2 rfl)
    have f30 : τ 170 30 = c.1 1 4 := (hM'.1 170 30 (by omega)).trans t1.1
    have hcan := (hM'.2.2 a ha).2 (c.2.2.2.2.2 + v) s hv hs10
    have put : ∀ val : Int, Bb val (Pg c v v a s) → Hp ((wt τ 226 7680 ((960 * a + 10 * (c.2.2.2.2.2 + v) + s : Nat) : Int) val).bind fun σ1 => some (Sum.inl (wr ((s : Int) + 1), σ1))) (Lq (fun τ => Wr ([(226, 226)], []) τ0 τ ∧ (∀ i, (∀ s, s < 10 → i ≠ 960 * a + 10 * (c.2.2.2.2.2 + v) + s) → τ 226 i = τ0 226 i) ∧ ∀ s, s < 10 → Bb (τ 226 (960 * a + 10 * (c.2.2.2.2.2 + v) + s)) (Pg c v v a s)) (fun (z : Int × St) => z.1 = ((s + 1 : Nat) : Int) ∧ Wr ([(226, 226)], []) τ0 z.2 ∧ (∀ i, (∀ s, s < 10 → i ≠ 960 * a + 10 * (c.2.2.2.2.2 + v) + s) → z.2 226 i = τ0 226 i) ∧ (∀ s', s' < s + 1 → Bb (z.2 226 (960 * a + 10 * (c.2.2.2.2.2 + v) + s')) (Pg c v v a s')) ∧ ∀ s', s + 1 ≤ s' → s' < 10 → z.2 226 (960 * a + 10 * (c.2.2.2.2.2 + v) + s') = 0)) := by
      intro val hval
      rw [Hp_bind, Hp_wt]
      refine ⟨by omega, ?_⟩
      rw [Int.toNat_natCast, Hp_some, Lq_inl, nx1 (by omega)]
      refine ⟨rfl, Wr_up e2 rfl, ?_, ?_, ?_⟩
      · intro i hi
        simp only
        rw [up_slot (hi s hs10)]
        exact e3 i hi
      · intro s' hs'
        simp only
        by_cases hss : s' = s
        · subst hss; rw [up_eq]; exact hval
        · rw [up_slot (by omega)]; exact e4 s' (by omega)
      · intro s' h1 h2
        simp only
        rw [up_slot (by omega)]; exact e5 s' (by omega) h2
    simp only [m_X12_spreads_L74]
    rw [if_neg (by omega), ixh (by omega) (by omega) (by omega)]
    simp only [vl]
    rw [bnd_s, rd_ok (by omega) (by omega), bnd_s, Int.toNat_natCast]
    by_cases hz1 : τ 221 (960 * a + 10 * (c.2.2.2.2.2 + v) + s) = 0
    · rw [if_pos hz1]
      refine put 0 (Bb_0 (fun q => (Bb_ne hcan).mp hz1 q.1))
    · have hc := hcan.2.mp (by have := hcan.1; omega)
      rw [if_neg hz1, bit_at set (by omega)]
      by_cases hb : tb set a = true
      · rw [if_pos hb, if_pos rfl, m_X12_spreads_J140]
        exact put 1 (Bb_1 ((Pg_cr c v a s).mpr ⟨hc, Or.inl ((hS a).mpr hb)⟩))
      · rw [if_neg hb, if_neg (by decide)]
        obtain ⟨b, b1, b2⟩ := carries_sp (c := c) (τ := τ) (v := v) (a := a) (s := s) hT hA hM' ha hv hs10 (fun u s' hu hs' => by
          rw [e3 _ (fun s'' h'' => by omega)]
          exact hH u s' hu hs')
        rw [b1, bnd_s]
        by_cases hb0 : b = 0
        · rw [if_pos hb0]
          refine put 0 (Bb_0 (fun q => ?_))
          rcases ((Pg_cr c v a s).mp q).2 with r | r
          · exact hb ((hS a).mp r)
          · exact (Bb_ne b2).mp hb0 r
        · rw [if_neg hb0, m_X12_spreads_J140]
          exact put 1 (Bb_1 ((Pg_cr c v a s).mpr ⟨hc, Or.inr (b2.2.mp (by have := b2.1; omega))⟩))
  · rintro ⟨x, τ⟩ ⟨e1, e2, e3, e4, e5⟩
    simp only at e1 e2 e3 e4 e5
    subst e1
    have hM' := MC_step hM (Wr_sb e2 rfl)
    have f30 : τ 170 30 = c.1 1 4 := (hM'.1 170 30 (by omega)).trans t1.1
    simp only [m_X12_spreads_L74]
    rw [if_pos (by omega), Hp_some, Lq_inr]
    refine ⟨e2, e3, ?_⟩
    intro s hs
    by_cases hss : s < (c.1 1 4).toNat
    · exact e4 s hss
    · rw [e5 s (by omega) hs]
      refine Bb_0 (fun q => ?_)
      have := can_s q.1
      omega
theorem spr_a {c : Ky} {τ0 : St} {v : Nat} {set : Int} (hT : iTown c.1) (hA : c.2.2.1 ≤ 8) (hv : c.2.2.2.2.2 + v < 96) (hS : ∀ a, c.2.2.2.1 a ↔ tb set a = true) (h0 : MsI c v τ0) :
    Hp (lp (fun z => m_X12_spreads_L62 ((c.2.2.2.2.2 + v : Nat) : Int) set (c.2.2.2.2.2 : Int) z.1 z.2) (0, τ0)) (fun τ => Wr ([(226, 226)], []) τ0 τ ∧ (∀ a u s, a < c.2.2.1 → u ≠ v → c.2.2.2.2.2 + u < 96 → s < 10 → τ 226 (960 * a + 10 * (c.2.2.2.2.2 + u) + s) = τ0 226 (960 * a + 10 * (c.2.2.2.2.2 + u) + s)) ∧ ∀ a s, a < c.2.2.1 → s < 10 → Bb (τ 226 (960 * a + 10 * (c.2.2.2.2.2 + v) + s)) (Pg c v v a s)) := by
  obtain ⟨m1, m2, m3, m4⟩ := h0
  refine Hp_up (fun j (z : Int × St) => z.1 = (j : Int) ∧ Wr ([(226, 226)], []) τ0 z.2 ∧ (∀ a u s, a < c.2.2.1 → (u ≠ v ∨ j ≤ a) → c.2.2.2.2.2 + u < 96 → s < 10 → z.2 226 (960 * a + 10 * (c.2.2.2.2.2 + u) + s) = τ0 226 (960 * a + 10 * (c.2.2.2.2.2 + u) + s)) ∧ ∀ a s, a < j → s < 10 → Bb (z.2 226 (960 * a + 10 * (c.2.2.2.2.2 + v) + s)) (Pg c v v a s)) 0 c.2.2.1 (by omega) (by omega) ⟨rfl, Wr_rf, fun _ _ _ _ _ _ _ => rfl, fun a s h => by omega⟩ ?_ ?_
  · rintro a ⟨x, τ⟩ - ha ⟨e1, e2, e3, e4⟩
    simp only at e1 e2 e3 e4
    subst e1
    have hM' := MC_step m1 (Wr_sb e2 rfl)
    have f35 := hM'.2.1
    simp only [m_X12_spreads_L62]
    rw [if_neg (by omega), Hp_bind]
    refine Hp_mono (spr_s (c := c) (v := v) hT hA hv ha hS hM' (fun u s hu hs => by rw [e3 a u s ha (Or.inl (by omega)) (by omega) hs]; exact m2 a u s ha hu (by omega) hs) (fun s hs => by rw [e3 a v s ha (Or.inr (Nat.le_refl _)) hv hs]; exact m3 a v s ha (Nat.le_refl _) hv hs)) ?_
    rintro τ' ⟨w, q1, q2⟩
    rw [Hp_some, Lq_inl, nx1 (by omega)]
    refine ⟨rfl, Wr_tr e2 w, ?_, ?_⟩
    · intro b u s hb hu hu2 hs
      simp only
      rw [q1 _ (fun s' hs' => by omega)]
      exact e3 b u s hb (by omega) hu2 hs
    · intro b s hb hs
      simp only
      by_cases hba : b = a
      · subst hba; exact q2 s hs
      · rw [q1 _ (fun s' hs' => by omega)]
        exact e4 b s (by omega) hs
  · rintro ⟨x, τ⟩ ⟨e1, e2, e3, e4⟩
    simp only at e1 e2 e3 e4
    subst e1
    have hM' := MC_step m1 (Wr_sb e2 rfl)
    have f35 := hM'.2.1
    simp only [m_X12_spreads_L62]
    rw [if_pos (by omega), Hp_some, Lq_inr]
    exact ⟨e2, fun a u s ha hu hu2 hs => e3 a u s ha (Or.inl hu) hu2 hs, e4⟩
theorem here_1 {τ : St} {A d s : Nat} (hA : A ≤ 8) (hd : d < 96) (hs : s < 10) (h35 : τ 170 35 = (A : Int)) (h01 : ∀ a, a < A → τ 226 (960 * a + 10 * d + s) = 1 ∨ τ 226 (960 * a + 10 * d + s) = 0) : Hp (lp (fun z => m_X12_spreads_L197 τ d s z.1 z.2) (0, 0)) (fun x => Bb x (∃ a, a < A ∧ τ 226 (960 * a + 10 * d + s) = 1)) := by
  refine Hp_up (fun j (z : Int × Int) => z.2 = (j : Int) ∧ Bb z.1 (∃ a, a < j ∧ τ 226 (960 * a + 10 * d + s) = 1)) 0 A (by omega) (by omega) ⟨rfl, Bb_0 (fun ⟨a, h, _⟩ => by omega)⟩ ?_ ?_
  · rintro j ⟨y, x⟩ - hj ⟨e1, e2⟩
    simp only at e1 e2
    subst e1
    simp only [m_X12_spreads_L197]
    rw [if_neg (by omega), ixh (by omega) (by omega) (by omega), rd_ok (by omega) (by omega), bnd_s, Int.toNat_natCast]
    by_cases hz : τ 226 (960 * j + 10 * d + s) = 0
    · rw [if_pos hz, Hp_some, Lq_inl, nx1 (by omega)]
      refine ⟨rfl, Bb_cg e2 ?_⟩
      constructor
      · rintro ⟨a, h1, h2⟩; exact ⟨a, by omega, h2⟩
      · rintro ⟨a, h1, h2⟩
        by_cases haj : a = j
        · subst haj; omega
        · exact ⟨a, by omega, h2⟩
    · rw [if_neg hz, Hp_some, Lq_inl, nx1 (by omega)]
      exact ⟨rfl, Bb_1 ⟨j, by omega, by have := h01 j hj; omega⟩⟩
  · rintro ⟨y, x⟩ ⟨e1, e2⟩
    simp only at e1 e2
    subst e1
    simp only [m_X12_spreads_L197]
    rw [if_pos (by omega), Hp_some, Lq_inr]
    exact e2
theorem here_2 {τ : St} {A d s : Nat} (hA : A ≤ 8) (hd : d < 96) (hs : s < 10) (h35 : τ 170 35 = (A : Int)) (h01 : ∀ a, a < A → τ 226 (960 * a + 10 * d + s) = 1 ∨ τ 226 (960 * a + 10 * d + s) = 0) : Hp (lp (fun z => m_X12_spreads_L197_82 τ d s z.1 z.2) (0, 0)) (fun x => Bb x (∃ a, a < A ∧ τ 226 (960 * a + 10 * d + s) = 1)) := by
  refine Hp_up (fun j (z : Int × Int) => z.2 = (j : Int) ∧ Bb z.1 (∃ a, a < j ∧ τ 226 (960 * a + 10 * d + s) = 1)) 0 A (by omega) (by omega) ⟨rfl, Bb_0 (fun ⟨a, h, _⟩ => by omega)⟩ ?_ ?_
  · rintro j ⟨y, x⟩ - hj ⟨e1, e2⟩
    simp only at e1 e2
    subst e1
    simp only [m_X12_spreads_L197_82]
    rw [if_neg (by omega), ixh (by omega) (by omega) (by omega), rd_ok (by omega) (by omega), bnd_s, Int.toNat_natCast]
    by_cases hz : τ 226 (960 * j + 10 * d + s) = 0
    · rw [if_pos hz, Hp_some, Lq_inl, nx1 (by omega)]
      refine ⟨rfl, Bb_cg e2 ?_⟩
      constructor
      · rintro ⟨a, h1, h2⟩; exact ⟨a, by omega, h2⟩
      · rintro ⟨a, h1, h2⟩
        by_cases haj : a = j
        · subst haj; omega
        · exact ⟨a, by omega, h2⟩
    · rw [if_neg hz, Hp_some, Lq_inl, nx1 (by omega)]
      exact ⟨rfl, Bb_1 ⟨j, by omega, by have := h01 j hj; omega⟩⟩
  · rintro ⟨y, x⟩ ⟨e1, e2⟩
    simp only at e1 e2
    subst e1
    simp only [m_X12_spreads_L197_82]
    rw [if_pos (by omega), Hp_some, Lq_inr]
    exact e2
theorem drop_1 {τ0 : St} {A d s : Nat} (hA : A ≤ 8) (hd : d < 96) (hs : s < 10) (h35 : τ0 170 35 = (A : Int)) (h01 : ∀ a, a < A → τ0 226 (960 * a + 10 * d + s) = 1 ∨ τ0 226 (960 * a + 10 * d + s) = 0) : Hp (lp (fun z => m_X12_spreads_L313 d s z.1 z.2) (0, τ0)) (fun τ => Wr ([(227, 227)], []) τ0 τ ∧ (∀ s', s' ≠ s → τ 227 s' = τ0 227 s') ∧ (((∃ a, a < A ∧ τ0 226 (960 * a + 10 * d + s) = 1) ∧ τ 227 s = 1) ∨ ((¬ ∃ a, a < A ∧ τ0 226 (960 * a + 10 * d + s) = 1) ∧ τ 227 s = τ0 227 s))) := by
  refine Hp_up (fun j (z : Int × St) => z.1 = (j : Int) ∧ Wr ([(227, 227)], []) τ0 z.2 ∧ (∀ s', s' ≠ s → z.2 227 s' = τ0 227 s') ∧ (((∃ a, a < j ∧ τ0 226 (960 * a + 10 * d + s) = 1) ∧ z.2 227 s = 1) ∨ ((¬ ∃ a, a < j ∧ τ0 226 (960 * a + 10 * d + s) = 1) ∧ z.2 227 s = τ0 227 s))) 0 A (by omega) (by omega) ⟨rfl, Wr_rf, fun _ _ => rfl, Or.inr ⟨fun ⟨a, h, _⟩ => by omega, rfl⟩⟩ ?_ ?_
  · rintro j ⟨x, τ⟩ - hj ⟨e1, e2, e3, e4⟩
    simp only at e1 e2 e3 e4
    subst e1
    have f35 : τ 170 35 = (A : Int) := (e2 170 35 rfl).trans h35
    have f226 : τ 226 (960 * j + 10 * d + s) = τ0 226 (960 * j + 10 * d + s) := e2 226 _ rfl
    simp only [m_X12_spreads_L313]
    rw [if_neg (by omega), ixh (by omega) (by omega) (by omega), rd_ok (by omega) (by omega), bnd_s, Int.toNat_natCast, f226]
    by_cases hz : τ0 226 (960 * j + 10 * d + s) = 0
    · rw [if_pos hz, Hp_some, Lq_inl, nx1 (by omega)]
      refine ⟨rfl, e2, e3, ?_⟩
      rcases e4 with ⟨⟨a, q1, q2⟩, q3⟩ | ⟨q1, q2⟩
      · exact Or.inl ⟨⟨a, by omega, q2⟩, q3⟩
      · refine Or.inr ⟨?_, q2⟩
        rintro ⟨a, r1, r2⟩
        by_cases haj : a = j
        · subst haj; omega
        · exact q1 ⟨a, by omega, r2⟩
    · rw [if_neg hz, Hp_bind, Hp_wt]
      refine ⟨by omega, ?_⟩
      rw [Int.toNat_natCast, Hp_some, Lq_inl, nx1 (by omega)]
      refine ⟨rfl, Wr_up e2 rfl, ?_, Or.inl ⟨⟨j, by omega, by have := h01 j hj; omega⟩, up_eq _ _ _ _⟩⟩
      intro s' hs'
      simp only
      rw [up_slot hs']; exact e3 s' hs'
  · rintro ⟨x, τ⟩ ⟨e1, e2, e3, e4⟩
    simp only at e1 e2 e3 e4
    subst e1
    have f35 : τ 170 35 = (A : Int) := (e2 170 35 rfl).trans h35
    simp only [m_X12_spreads_L313]
    rw [if_pos (by omega), Hp_some, Lq_inr]
    exact ⟨e2, e3, e4⟩
theorem drop_2 {τ0 : St} {A d s : Nat} (hA : A ≤ 8) (hd : d < 96) (hs : s < 10) (h35 : τ0 170 35 = (A : Int)) (h01 : ∀ a, a < A → τ0 226 (960 * a + 10 * d + s) = 1 ∨ τ0 226 (960 * a + 10 * d + s) = 0) : Hp (lp (fun z => m_X12_spreads_L313_104 d s z.1 z.2) (0, τ0)) (fun τ => Wr ([(227, 227)], []) τ0 τ ∧ (∀ s', s' ≠ s → τ 227 s' = τ0 227 s') ∧ (((∃ a, a < A ∧ τ0 226 (960 * a + 10 * d + s) = 1) ∧ τ 227 s = 1) ∨ ((¬ ∃ a, a < A ∧ τ0 226 (960 * a + 10 * d + s) = 1) ∧ τ 227 s = τ0 227 s))) := by
  refine Hp_up (fun j (z : Int × St) => z.1 = (j : Int) ∧ Wr ([(227, 227)], []) τ0 z.2 ∧ (∀ s', s' ≠ s → z.2 227 s' = τ0 227 s') ∧ (((∃ a, a < j ∧ τ0 226 (960 * a + 10 * d + s) = 1) ∧ z.2 227 s = 1) ∨ ((¬ ∃ a, a < j ∧ τ0 226 (960 * a + 10 * d + s) = 1) ∧ z.2 227 s = τ0 227 s))) 0 A (by omega) (by omega) ⟨rfl, Wr_rf, fun _ _ => rfl, Or.inr ⟨fun ⟨a, h, _⟩ => by omega, rfl⟩⟩ ?_ ?_
  · rintro j ⟨x, τ⟩ - hj ⟨e1, e2, e3, e4⟩
    simp only at e1 e2 e3 e4
    subst e1
    have f35 : τ 170 35 = (A : Int) := (e2 170 35 rfl).trans h35
    have f226 : τ 226 (960 * j + 10 * d + s) = τ0 226 (960 * j + 10 * d + s) := e2 226 _ rfl
    simp only [m_X12_spreads_L313_104]
    rw [if_neg (by omega), ixh (by omega) (by omega) (by omega), rd_ok (by omega) (by omega), bnd_s, Int.toNat_natCast, f226]
    by_cases hz : τ0 226 (960 * j + 10 * d + s) = 0
    · rw [if_pos hz, Hp_some, Lq_inl, nx1 (by omega)]
      refine ⟨rfl, e2, e3, ?_⟩
      rcases e4 with ⟨⟨a, q1, q2⟩, q3⟩ | ⟨q1, q2⟩
      · exact Or.inl ⟨⟨a, by omega, q2⟩, q3⟩
      · refine Or.inr ⟨?_, q2⟩
        rintro ⟨a, r1, r2⟩
        by_cases haj : a = j
        · subst haj; omega
        · exact q1 ⟨a, by omega, r2⟩
    · rw [if_neg hz, Hp_bind, Hp_wt]
      refine ⟨by omega, ?_⟩
      rw [Int.toNat_natCast, Hp_some, Lq_inl, nx1 (by omega)]
      refine ⟨rfl, Wr_up e2 rfl, ?_, Or.inl ⟨⟨j, by omega, by have := h01 j hj; omega⟩, up_eq _ _ _ _⟩⟩
      intro s' hs'
      simp only
      rw [up_slot hs']; exact e3 s' hs'
  · rintro ⟨x, τ⟩ ⟨e1, e2, e3, e4⟩
    simp only at e1 e2 e3 e4
    subst e1
    have f35 : τ 170 35 = (A : Int) := (e2 170 35 rfl).trans h35
    simp only [m_X12_spreads_L313_104]
    rw [if_pos (by omega), Hp_some, Lq_inr]
    exact ⟨e2, e3, e4⟩
theorem set_1 {τ0 : St} {A d s : Nat} (hA : A ≤ 8) (hd : d < 96) (hs : s < 10) (h35 : τ0 170 35 = (A : Int)) : Hp (lp (fun z => m_X12_spreads_L241 d s z.1 z.2) (0, τ0)) (fun τ => Wr ([(226, 226)], []) τ0 τ ∧ (∀ i, (∀ a, a < A → i ≠ 960 * a + 10 * d + s) → τ 226 i = τ0 226 i) ∧ ∀ a, a < A → τ 226 (960 * a + 10 * d + s) = if τ0 221 (960 * a + 10 * d + s) = 0 then τ0 226 (960 * a + 10 * d + s) else 1) := by
  refine Hp_up (fun j (z : Int × St) => z.1 = (j : Int) ∧ Wr ([(226, 226)], []) τ0 z.2 ∧ (∀ i, (∀ a, a < j → i ≠ 960 * a + 10 * d + s) → z.2 226 i = τ0 226 i) ∧ ∀ a, a < j → z.2 226 (960 * a + 10 * d + s) = if τ0 221 (960 * a + 10 * d + s) = 0 then τ0 226 (960 * a + 10 * d + s) else 1) 0 A (by omega) (by omega) ⟨rfl, Wr_rf, fun _ _ => rfl, fun a h => by omega⟩ ?_ ?_
  · rintro j ⟨x, τ⟩ - hj ⟨e1, e2, e3, e4⟩
    simp only at e1 e2 e3 e4
    subst e1
    have f35 : τ 170 35 = (A : Int) := (e2 170 35 rfl).trans h35
    have f221 : τ 221 (960 * j + 10 * d + s) = τ0 221 (960 * j + 10 * d + s) := e2 221 _ rfl
    simp only [m_X12_spreads_L241]
    rw [if_neg (by omega), ixh (by omega) (by omega) (by omega), rd_ok (by omega) (by omega), bnd_s, Int.toNat_natCast, f221]
    by_cases hz : τ0 221 (960 * j + 10 * d + s) = 0
    · rw [if_pos hz, Hp_some, Lq_inl, nx1 (by omega)]
      refine ⟨rfl, e2, fun i hi => e3 i (fun a ha => hi a (by omega)), ?_⟩
      intro a ha
      by_cases haj : a = j
      · subst haj
        simp only
        rw [if_pos hz]
        exact e3 _ (fun a' ha' => by omega)
      · exact e4 a (by omega)
    · rw [if_neg hz, Hp_bind, Hp_wt]
      refine ⟨by omega, ?_⟩
      rw [Int.toNat_natCast, Hp_some, Lq_inl, nx1 (by omega)]
      refine ⟨rfl, Wr_up e2 rfl, ?_, ?_⟩
      · intro i hi
        simp only
        rw [up_slot (hi j (by omega))]
        exact e3 i (fun a ha => hi a (by omega))
      · intro a ha
        simp only
        by_cases haj : a = j
        · subst haj; rw [up_eq, if_neg hz]
        · rw [up_slot (by omega)]; exact e4 a (by omega)
  · rintro ⟨x, τ⟩ ⟨e1, e2, e3, e4⟩
    simp only at e1 e2 e3 e4
    subst e1
    have f35 : τ 170 35 = (A : Int) := (e2 170 35 rfl).trans h35
    simp only [m_X12_spreads_L241]
    rw [if_pos (by omega), Hp_some, Lq_inr]
    exact ⟨e2, e3, e4⟩
theorem set_2 {τ0 : St} {A d s : Nat} {h1 : Int} (hh : h1 ≠ 0) (hA : A ≤ 8) (hd : d < 96) (hs : s < 10) (h35 : τ0 170 35 = (A : Int)) : Hp (lp (fun z => m_X12_spreads_L241_94 h1 d s z.1 z.2) (0, τ0)) (fun τ => Wr ([(226, 226)], []) τ0 τ ∧ (∀ i, (∀ a, a < A → i ≠ 960 * a + 10 * d + s) → τ 226 i = τ0 226 i) ∧ ∀ a, a < A → τ 226 (960 * a + 10 * d + s) = if τ0 221 (960 * a + 10 * d + s) = 0 then τ0 226 (960 * a + 10 * d + s) else 1) := by
  refine Hp_up (fun j (z : Int × St) => z.1 = (j : Int) ∧ Wr ([(226, 226)], []) τ0 z.2 ∧ (∀ i, (∀ a, a < j → i ≠ 960 * a + 10 * d + s) → z.2 226 i = τ0 226 i) ∧ ∀ a, a < j → z.2 226 (960 * a + 10 * d + s) = if τ0 221 (960 * a + 10 * d + s) = 0 then τ0 226 (960 * a + 10 * d + s) else 1) 0 A (by omega) (by omega) ⟨rfl, Wr_rf, fun _ _ => rfl, fun a h => by omega⟩ ?_ ?_
  · rintro j ⟨x, τ⟩ - hj ⟨e1, e2, e3, e4⟩
    simp only at e1 e2 e3 e4
    subst e1
    have f35 : τ 170 35 = (A : Int) := (e2 170 35 rfl).trans h35
    have f221 : τ 221 (960 * j + 10 * d + s) = τ0 221 (960 * j + 10 * d + s) := e2 221 _ rfl
    simp only [m_X12_spreads_L241_94]
    rw [if_neg (by omega), if_neg hh, ixh (by omega) (by omega) (by omega), rd_ok (by omega) (by omega), bnd_s, Int.toNat_natCast, f221]
    by_cases hz : τ0 221 (960 * j + 10 * d + s) = 0
    · rw [if_pos hz, Hp_some, Lq_inl, nx1 (by omega)]
      refine ⟨rfl, e2, fun i hi => e3 i (fun a ha => hi a (by omega)), ?_⟩
      intro a ha
      by_cases haj : a = j
      · subst haj
        simp only
        rw [if_pos hz]
        exact e3 _ (fun a' ha' => by omega)
      · exact e4 a (by omega)
    · rw [if_neg hz, Hp_bind, Hp_wt]
      refine ⟨by omega, ?_⟩
      rw [Int.toNat_natCast, Hp_some, Lq_inl, nx1 (by omega)]
      refine ⟨rfl, Wr_up e2 rfl, ?_, ?_⟩
      · intro i hi
        simp only
        rw [up_slot (hi j (by omega))]
        exact e3 i (fun a ha => hi a (by omega))
      · intro a ha
        simp only
        by_cases haj : a = j
        · subst haj; rw [up_eq, if_neg hz]
        · rw [up_slot (by omega)]; exact e4 a (by omega)
  · rintro ⟨x, τ⟩ ⟨e1, e2, e3, e4⟩
    simp only at e1 e2 e3 e4
    subst e1
    have f35 : τ 170 35 = (A : Int) := (e2 170 35 rfl).trans h35
    simp only [m_X12_spreads_L241_94]
    rw [if_pos (by omega), Hp_some, Lq_inr]
    exact ⟨e2, e3, e4⟩
theorem set_3 {τ0 : St} {A d s : Nat} (hA : A ≤ 8) (h35 : τ0 170 35 = (A : Int)) : Hp (lp (fun z => m_X12_spreads_L241_94 0 d s z.1 z.2) (0, τ0)) (fun τ => τ = τ0) := by
  refine Hp_up (fun j (z : Int × St) => z.1 = (j : Int) ∧ z.2 = τ0) 0 A (by omega) (by omega) ⟨rfl, rfl⟩ ?_ ?_
  · rintro j ⟨x, τ⟩ - hj ⟨e1, e2⟩
    simp only at e1 e2
    subst e1; subst e2
    simp only [m_X12_spreads_L241_94]
    rw [if_neg (by omega), if_pos trivial, Hp_some, Lq_inl, nx1 (by omega)]
    exact ⟨rfl, rfl⟩
  · rintro ⟨x, τ⟩ ⟨e1, e2⟩
    simp only at e1 e2
    subst e1; subst e2
    simp only [m_X12_spreads_L241_94]
    rw [if_pos (by omega), Hp_some, Lq_inr]
