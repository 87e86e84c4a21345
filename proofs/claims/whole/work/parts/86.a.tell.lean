/-! papers taken, secrets told -/
theorem ix8 {b i : Nat} (hb : b < 100) (hi : i < 100) : wr (wr (8 * (b : Int)) + (i : Int)) = ((8 * b + i : Nat) : Int) := by
  rw [wr_id' (x := 8 * (b : Int)) (by omega) (by omega), wr_id' (by omega) (by omega)]; omega
theorem learn_c {τ : St} {b i t : Nat} {e : Int} (hi : i < 8) (ht : τ 129 12 = (t : Int)) : m_X8_learn (39 + 7 * b) (i : Int) e τ = some (if τ (44 + 7 * b) i = -1 then up (up (up τ (44 + 7 * b) i (t : Int)) (45 + 7 * b) i e) 129 13 (wr (τ 129 13 + 1)) else τ) := by
  rw [m_X8_learn, if_neg (by omega), if_neg (by omega), rd_ok (by omega) (by omega), bnd_s, Int.toNat_natCast, show 39 + 7 * b + 5 = 44 + 7 * b by omega, show 39 + 7 * b + 6 = 45 + 7 * b by omega]
  by_cases h : τ (44 + 7 * b) i = -1
  · rw [if_pos h, if_pos h, wt_ok (by omega) (by omega), bnd_s, Int.toNat_natCast, wt_ok (by omega) (by omega), bnd_s, Int.toNat_natCast, pt_s, bnd_s, ht]
    simp (disch := omega) only [up_eq, up_cell, up_slot]
  · rw [if_neg h, if_neg h]
theorem learn_m {τ : St} {b i t : Nat} {e : Int} (hb : b < 8) (hi : i < 8) (ht : τ 170 71 = (t : Int)) : m_X12_learns (b : Int) (i : Int) e τ = some (if τ 202 (8 * b + i) = -1 then up (up (up τ 202 (8 * b + i) (t : Int)) 203 (8 * b + i) e) 170 60 (wr (τ 170 60 + 1)) else τ) := by
  rw [m_X12_learns, ix8 (by omega) (by omega), rd_ok (by omega) (by omega), bnd_s, Int.toNat_natCast]
  by_cases h : τ 202 (8 * b + i) = -1
  · rw [if_pos h, if_pos h, wt_ok (by omega) (by omega), bnd_s, Int.toNat_natCast, wt_ok (by omega) (by omega), bnd_s, Int.toNat_natCast, pt_s, bnd_s, ht]
    simp (disch := omega) only [up_eq, up_cell, up_slot]
  · rw [if_neg h, if_neg h]
/-- agent b learns secret i of e, who knows it -/
theorem learn_2 {ρ : St} {A N : Nat} {f : Nat → Nat} {cx : Nat → List Bool} {cd : Nat → Nat} {t j b i e : Nat} {q : Nat → Prop} {τ τm : St} (hA : A ≤ 8) (hW : Wld ρ A N f cx cd t j q τ τm) (hb : b < A) (he : e < A) (hi : i < 8) (hk : τm 202 (8 * e + i) ≠ -1) :
    Hp2 (m_X8_learn (39 + 7 * b) (i : Int) (e : Int) τ) (m_X12_learns (b : Int) (i : Int) (e : Int) τm) (Hnd ρ A N f cx cd t j q τ τm) := by
  obtain ⟨⟨-, ⟨⟨w1, w2, w3⟩, w4⟩, -⟩, ⟨⟨rk, w8⟩, -⟩, -⟩ := id hW
  have k1 := (w8 b i hb hi).1.1
  rw [learn_c hi w1, learn_m (by omega) hi w2, Hp2_some, k1, w4]
  by_cases h : τ (44 + 7 * b) i = -1
  · rw [if_pos h, if_pos h]
    exact ⟨Wld_ln hA hW hb he hi (by rw [k1]; exact h) hk, GloC_up (GloC_up (GloC_up GloC_rf (by omega)) (by omega)) (by omega), GloM_up (GloM_up (GloM_up GloM_rf (by omega)) (by omega)) (by omega)⟩
  · rw [if_neg h, if_neg h]
    exact ⟨hW, GloC_rf, GloM_rf⟩
theorem GloC_tr {τ τ1 τ2 : St} (h1 : GloC τ τ1) (h2 : GloC τ1 τ2) : GloC τ τ2 := fun k j n1 n2 n3 n4 => (h2 k j n1 n2 n3 n4).trans (h1 k j n1 n2 n3 n4)
theorem GloM_tr {τ τ1 τ2 : St} (h1 : GloM τ τ1) (h2 : GloM τ1 τ2) : GloM τ τ2 := fun k j n1 n2 => (h2 k j n1 n2).trans (h1 k j n1 n2)
theorem Hnd_tr {ρ : St} {A N : Nat} {f : Nat → Nat} {cx : Nat → List Bool} {cd : Nat → Nat} {t j : Nat} {q : Nat → Prop} {τ τm τ1 τm1 τ2 τm2 : St} (h1 : GloC τ τ1) (h2 : GloM τm τm1) (h : Hnd ρ A N f cx cd t j q τ1 τm1 τ2 τm2) : Hnd ρ A N f cx cd t j q τ τm τ2 τm2 := ⟨h.1, GloC_tr h1 h.2.1, GloM_tr h2 h.2.2⟩
theorem up_comm {σ : St} {k i k' j : Nat} {x y : Int} (h : k ≠ k') : up (up σ k i x) k' j y = up (up σ k' j y) k i x := by
  funext c d
  by_cases h1 : c = k'
  · subst h1
    by_cases h2 : d = j
    · subst h2; rw [up_eq, up_cell (by omega), up_eq]
    · rw [up_slot h2, up_cell (by omega), up_cell (by omega), up_slot h2]
  · rw [up_cell h1]
    by_cases h3 : c = k
    · subst h3
      by_cases h4 : d = i
      · subst h4; rw [up_eq, up_eq]
      · rw [up_slot h4, up_slot h4, up_cell h1]
    · rw [up_cell h3, up_cell h3, up_cell h1]
/-- takes a paper -/
theorem hd_18 {ρ : St} {A N : Nat} {f : Nat → Nat} {cx : Nat → List Bool} {cd : Nat → Nat} {t j a s i : Nat} {q : Nat → Prop} {τ τm : St} (hA : A ≤ 8) (hW : Wld ρ A N f cx cd t j q τ τm) (ha : a < A) (hi : i < 8) (hs : s < 10) (h9 : τ (39 + 7 * a) 9 = (s : Int)) (h14 : (s : Int) < τ 1 4) :
    Hp2 ((m_X8_takePaper (39 + 7 * a) (i : Int) τ).bind fun σ7 => some σ7) ((rd τm 206 80 (wr (wr (8 * (s : Int)) + (i : Int)))).bind fun x35 => (if x35 = (-1) then some τm else (wt τm 206 80 (wr (wr (8 * (s : Int)) + (i : Int))) (-1)).bind fun σ37 => (rd σ37 204 8 (a : Int)).bind fun x38 => (wt σ37 204 8 (a : Int) (orI x38 (shlI 1 (i : Int)))).bind fun σ39 => (m_X12_learns (a : Int) (i : Int) x35 σ39).bind fun σ40 => some σ40)) (Hnd ρ A N f cx cd t j q τ τm) := by
  obtain ⟨⟨-, ⟨⟨w1, w2, w3⟩, w4⟩, -⟩, ⟨⟨rk, w8⟩, w9, -, w11, -⟩, -⟩ := id hW
  obtain ⟨g1, g2, g3⟩ := w9 a ha
  obtain ⟨l1, l2⟩ := w11 s hs
  obtain ⟨l3, l4⟩ := l2 i hi
  have pl : m_X8_paperLies (s : Int) (i : Int) τ = some (if tb (τ 131 s) i = true then 1 else 0) := by
    rw [m_X8_paperLies, hasspot_c h14 hs, bnd_s, if_neg (show ¬ (1 : Int) = 0 by decide), rd_ok (by omega) (by omega), bnd_s, Int.toNat_natCast, bit_yes (by omega)]
    split
    · rw [if_neg (by decide)]
    · rw [if_pos rfl]
  rw [m_X8_takePaper, h9, pl, bnd_s, ix8 (by omega) (by omega), rd_ok (by omega) (by omega), bnd_s, Int.toNat_natCast]
  by_cases hb : tb (τ 131 s) i = true
  · have hne := l3.mpr hb
    obtain ⟨e, e1, e2, e3, e4⟩ := l4 hne
    have e5 := no_bit (x := τ 131 s) (n := 8) ⟨by omega, by omega⟩ (by rw [p8]; omega) (by omega) hi
    have e6 := or_bit (x := τm 204 a) (n := 8) ⟨by omega, by omega⟩ (by rw [p8]; omega) (by omega) hi
    rw [p8] at e5 e6
    -- first what is learned is known; then the paper
    have W1 := Wld_tk hA hW hs hi e5.1 (fun k hk => by rw [e5.2, Bool.and_eq_true, Bool.not_eq_true', decide_eq_false_iff_not])
    rw [if_pos hb, if_neg (show ¬ (1 : Int) = 0 by decide), if_neg (by omega), if_neg (by omega), rd_ok (by omega) (by omega), bnd_s, Int.toNat_natCast, wt_ok (by omega) (by omega), bnd_s, Int.toNat_natCast, pt_s, bnd_s, up_slot (by omega), up_cell (by omega), up_cell (by omega), h9, rr_ok (by omega) (by omega), bnd_s, Int.toNat_natCast, rf_lv hs, rd_ok (by omega) (by omega), bnd_s, Int.toNat_natCast, up_cell (by omega), up_cell (by omega), e3, if_neg hne, wt_ok (by omega) (by omega), bnd_s, Int.toNat_natCast, rd_ok (by omega) (by omega), bnd_s, Int.toNat_natCast, wt_ok (by omega) (by omega), bnd_s, Int.toNat_natCast, up_cell (by decide), e2, ← g1]
    have k1 := (w8 a i ha hi).1.1
    have b1 : (up (up τ 131 s (andI (τ 131 s) (xorI (shlI 1 (i : Int)) (-1)))) (39 + 7 * a) 16 (orI (τm 204 a) (shlI 1 (i : Int)))) 129 12 = (t : Int) := by simp (disch := omega) only [up_eq, up_cell, up_slot]; exact w1
    have b2 : (up (up τm 206 (8 * s + i) (-1)) 204 a (orI (τm 204 a) (shlI 1 (i : Int)))) 170 71 = (t : Int) := by simp (disch := omega) only [up_eq, up_cell, up_slot]; exact w2
    have b3 : (up (up τ 131 s (andI (τ 131 s) (xorI (shlI 1 (i : Int)) (-1)))) (39 + 7 * a) 16 (orI (τm 204 a) (shlI 1 (i : Int)))) (44 + 7 * a) i = τ (44 + 7 * a) i := by simp (disch := omega) only [up_eq, up_cell, up_slot]
    have b4 : (up (up τm 206 (8 * s + i) (-1)) 204 a (orI (τm 204 a) (shlI 1 (i : Int)))) 202 (8 * a + i) = τ (44 + 7 * a) i := by simp (disch := omega) only [up_eq, up_cell, up_slot]; exact k1
    have b5 : (up (up τ 131 s (andI (τ 131 s) (xorI (shlI 1 (i : Int)) (-1)))) (39 + 7 * a) 16 (orI (τm 204 a) (shlI 1 (i : Int)))) 129 13 = τ 129 13 := by simp (disch := omega) only [up_eq, up_cell, up_slot]
    have b6 : (up (up τm 206 (8 * s + i) (-1)) 204 a (orI (τm 204 a) (shlI 1 (i : Int)))) 170 60 = τ 129 13 := by simp (disch := omega) only [up_eq, up_cell, up_slot]; exact w4.symm
    rw [learn_c hi b1, learn_m (by omega) hi b2, bnd_s, bnd_s, bnd_s, Hp2_some, b3, b4, b5, b6]
    by_cases hz : τ (44 + 7 * a) i = -1
    · rw [if_pos hz, if_pos hz]
      rw [up_comm (k := 39 + 7 * a) (k' := 44 + 7 * a) (by omega), up_comm (k := 39 + 7 * a) (k' := 45 + 7 * a) (by omega), up_comm (k := 39 + 7 * a) (k' := 129) (by omega), up_comm (k := 204) (k' := 202) (by omega), up_comm (k := 204) (k' := 203) (by omega), up_comm (k := 204) (k' := 170) (by omega)]
      have W2 := Wld_ln (y := wr (τ 129 13 + 1)) hA W1 (b := a) (e := e) (i := i) ha e1 hi (by rw [up_cell (by decide), k1]; exact hz) (by rw [up_cell (by decide)]; exact e4)
      refine ⟨Wld_pa hA W2 ha e6.1 ?_, ?_, ?_⟩
      · intro k hk hq
        rw [e6.2, Bool.or_eq_true] at hq
        by_cases hki : k = i
        · subst hki
          rw [up_cell (by decide), up_cell (by decide), up_eq]; omega
        · rw [up_cell (by decide), up_cell (by decide), up_slot (by omega), up_cell (by decide)]
          rcases hq with hq | hq
          · exact g3 k hk hq
          · exact absurd (of_decide_eq_true hq) hki
      · exact GloC_up (GloC_up (GloC_up (GloC_up (GloC_up GloC_rf (by omega)) (by omega)) (by omega)) (by omega)) (by omega)
      · exact GloM_up (GloM_up (GloM_up (GloM_up (GloM_up GloM_rf (by omega)) (by omega)) (by omega)) (by omega)) (by omega)
    · rw [if_neg hz, if_neg hz]
      refine ⟨Wld_pa hA W1 ha e6.1 ?_, GloC_up (GloC_up GloC_rf (by omega)) (by omega), GloM_up (GloM_up GloM_rf (by omega)) (by omega)⟩
      intro k hk hq
      rw [e6.2, Bool.or_eq_true] at hq
      rw [up_cell (by decide)]
      rcases hq with hq | hq
      · exact g3 k hk hq
      · have : k = i := of_decide_eq_true hq
        subst this
        rw [k1]; exact hz
  · have hz : τm 206 (8 * s + i) = -1 := by
      by_cases hz : τm 206 (8 * s + i) = -1
      · exact hz
      · exact absurd (l3.mp hz) hb
    rw [if_neg hb, if_pos rfl, bnd_s, rd_ok (by omega) (by omega), bnd_s, Int.toNat_natCast, hz, if_pos rfl, Hp2_some]
    exact ⟨hW, GloC_rf, GloM_rf⟩
theorem Mt_ent {A : Nat} : ∀ (x : List Bool) (l r : List (Nat × Nat)), Mt A x l r → (∀ e, e ∈ r → e.1 = 0 ∨ e.1 = 1 ∨ (e.1 = 2 ∧ e.2 < A)) → ∀ e, e ∈ l → e.1 = 0 ∨ e.1 = 1 ∨ (e.1 = 2 ∧ e.2 < A) := by
  intro x
  induction x with
  | nil => intro l r h hr; have h' : l = r := h; rw [h']; exact hr
  | cons b x ih =>
    intro l r h hr e he
    cases b with
    | true =>
      obtain ⟨v, l', h1, -, -, h2⟩ := h
      rw [h1] at he
      rcases List.mem_cons.mp he with rfl | he
      · exact Or.inr (Or.inl rfl)
      · exact ih l' r h2 hr e he
    | false =>
      obtain ⟨v, l', h1, h3, h2⟩ := h
      rw [h1] at he
      rcases List.mem_cons.mp he with rfl | he
      · exact Or.inr (Or.inr ⟨rfl, h3⟩)
      · exact ih l' r h2 hr e he
theorem Stk_ent {A n : Nat} {cx : Nat → List Bool} {cd : Nat → Nat} : ∀ (d p : Nat) (l : List (Nat × Nat)), Stk A n cx cd d p l → ∀ e, e ∈ l → e.1 = 0 ∨ e.1 = 1 ∨ (e.1 = 2 ∧ e.2 < A) := by
  intro d
  induction d with
  | zero => intro p l h; exact absurd h id
  | succ d ih =>
    rintro p l ⟨r, h1, h2⟩
    refine Mt_ent _ _ _ h1 ?_
    rcases h2 with rfl | ⟨q, r', rfl, -, -, h3⟩
    · intro e he; exact absurd he (by simp)
    · intro e he
      rcases List.mem_cons.mp he with rfl | he
      · exact Or.inl rfl
      · exact ih q r' h3 e he
theorem inn_lt {A : Nat} : ∀ (l : List (Nat × Nat)), (∀ e, e ∈ l → e.1 = 0 ∨ e.1 = 1 ∨ (e.1 = 2 ∧ e.2 < A)) → inn l = -1 ∨ ∃ v : Nat, v < A ∧ inn l = (v : Int) := by
  intro l
  induction l with
  | nil => intro _; exact Or.inl rfl
  | cons e l ih =>
    intro he
    have he0 := he e (List.mem_cons_self ..)
    unfold inn
    by_cases h2 : e.1 = 2
    · rw [if_pos h2]
      exact Or.inr ⟨e.2, by omega, rfl⟩
    · rw [if_neg h2]
      exact ih (fun e' h' => he e' (List.mem_cons_of_mem _ h'))
/-- the model tells whom it met -/
theorem tells_m {f : Nat → Nat} {τ : St} {a A i t s : Nat} {l : List (Nat × Nat)} {Q : St → Prop} (ha : a < 8) (hA : A ≤ 8) (hi : i < 8) (ht : τ 170 71 = (t : Int)) (ht96 : t < 96) (hs : τ 201 (96 * a + t) = (s : Int)) (hF : FrM f τ a l) (he : ∀ e, e ∈ l → e.1 = 0 ∨ e.1 = 1 ∨ (e.1 = 2 ∧ e.2 < A))
    (h1 : inn l = -1 → Q τ) (h2 : ∀ v : Nat, v < A → inn l = (v : Int) → τ 202 (8 * a + i) = -1 → Q τ) (h3 : ∀ v : Nat, v < A → inn l = (v : Int) → τ 202 (8 * a + i) ≠ -1 → τ 201 (96 * v + t) ≠ (s : Int) → Q τ) (h4 : ∀ v : Nat, v < A → inn l = (v : Int) → τ 202 (8 * a + i) ≠ -1 → τ 201 (96 * v + t) = (s : Int) → Hp (m_X12_learns (v : Int) (i : Int) (a : Int) τ) Q) : Hp (m_X12_tells (a : Int) (i : Int) τ) Q := by
  obtain ⟨k1, k2, k3⟩ := hF
  have pl : ∀ b : Nat, b < 8 → m_X12_placeNow (b : Int) τ = some (τ 201 (96 * b + t)) := by
    intro b hb
    rw [m_X12_placeNow, ht, ix96 (by omega) (by omega), rd_ok (by omega) (by omega), bnd_s, Int.toNat_natCast]
  rw [m_X12_tells, rd_ok (by omega) (by omega), bnd_s, Int.toNat_natCast, k1, vl_s, bnd_s, wr_id' (by omega) (by omega), Hp_bind]
  refine Hp_dn (fun j (x : Int) => x = (j : Int) - 1 ∧ j ≤ l.length ∧ inn l = inn (l.drop (l.length - j))) l.length (by omega) ⟨rfl, Nat.le_refl _, by simp⟩ ?_ ?_
  · rintro j x hj ⟨e1, e2, e3⟩
    have hx : x = (j : Int) := by omega
    subst hx
    have hge : (l.length - (j + 1)) < l.length := by omega
    have hg : l[l.length - (j + 1)]? = some (l[l.length - (j + 1)]'hge) := List.getElem?_eq_getElem hge
    have hd : l.drop (l.length - (j + 1)) = (l[l.length - (j + 1)]'hge) :: l.drop (l.length - j) := by
      rw [List.drop_eq_getElem_cons hge, show l.length - (j + 1) + 1 = l.length - j by omega]
    have hv := k3 _ _ hg
    rw [show l.length - 1 - (l.length - (j + 1)) = j by omega] at hv
    have hm := he _ (List.getElem_mem hge)
    generalize l[l.length - (j + 1)]'hge = e at hg hd hv hm
    simp only [m_X12_tells_L9]
    have ix : wr (wr (64 * (a : Int)) + (j : Int)) = ((64 * a + j : Nat) : Int) := by
      rw [wr_id' (x := 64 * (a : Int)) (by omega) (by omega), wr_id' (by omega) (by omega)]; omega
    rw [if_neg (by omega), ix, rd_ok (by omega) (by omega), bnd_s, Int.toNat_natCast, hv.1]
    by_cases hc : e.1 = 2
    · have hin : inn l = (e.2 : Int) := by
        rw [e3, hd]; unfold inn; rw [if_pos hc]
      have hmv : mvl f e = (e.2 : Int) := by unfold mvl; rw [if_neg (by omega)]
      have hlt : e.2 < A := by omega
      rw [if_pos (show ((e.1 : Nat) : Int) = 2 by omega), rd_ok (by omega) (by omega), bnd_s, Int.toNat_natCast, hv.2, hmv, ix8 (by omega) (by omega), rd_ok (by omega) (by omega), bnd_s, Int.toNat_natCast]
      by_cases hk : τ 202 (8 * a + i) = -1
      · rw [if_pos hk, Hp_some, Lq_inr]
        simp only [Hp_some]
        exact h2 _ hlt hin hk
      · rw [if_neg hk, pl _ (by omega), bnd_s, pl a ha, bnd_s, hs]
        by_cases hp : τ 201 (96 * e.2 + t) = (s : Int)
        · rw [if_pos hp, Hp_bind]
          refine Hp_mono (h4 _ hlt hin hk hp) ?_
          intro τ' hq
          rw [Hp_some, Lq_inr]
          simp only [Hp_some]
          exact hq
        · rw [if_neg hp, Hp_some, Lq_inr]
          simp only [Hp_some]
          exact h3 _ hlt hin hk hp
    · rw [if_neg (show ¬ ((e.1 : Nat) : Int) = 2 by omega), Hp_some, Lq_inl, wr_id' (by omega) (by omega)]
      refine ⟨by omega, by omega, ?_⟩
      rw [e3, hd]
      show (if e.1 = 2 then (e.2 : Int) else inn (l.drop (l.length - j))) = _
      rw [if_neg hc]
  · rintro x ⟨e1, e2, e3⟩
    simp only [m_X12_tells_L9]
    rw [if_pos (by omega), Hp_some, Lq_inr]
    simp only [Hp_some]
    refine h1 ?_
    rw [e3, show l.length - 0 = l.length by omega, List.drop_length]
    rfl
