/-! READ: ahead of the codes, and behind them -/
theorem byte_in (x : Int) : 0 ≤ andI x 255 ∧ andI x 255 ≤ 255 := by
  have h := (mask_iff (andI_in x 255) (n := 8) (by decide)).mpr (fun i hi => by
    rw [tb_and]
    by_cases h32 : i < 32
    · have key : ∀ i : Fin 32, 8 ≤ i.val → tb 255 i.val = false := by decide +kernel
      rw [key ⟨i, h32⟩ hi, Bool.and_false]
    · rw [tb_hi 255 (by omega), Bool.and_false])
  omega
/-- the tokens of a text -/
theorem text_tf (b : Nat → Int) (n : Nat) : TF (fun t => tkK b n (tkS b n t)) (fun t => tkS b n t) (fun t => dgt b (tkS b n t) (en isD b n (tkS b n t) - tkS b n t)) (fun t => lst b (tkS b n t) (en isL b n (tkS b n t) - tkS b n t)) := by
  refine ⟨fun t => tk_same.1, fun t j hj hv => tkS_mono t j hj (fun q hq => tk_lt (hv q hq).1), fun t ht => ?_, fun t ht => ?_⟩
  · simp only at ht
    have hlt := tk_lt (b := b) (n := n) (s := tkS b n t) (by omega)
    have hs := en_sp (P := isL) (b := b) (n := n) (p := tkS b n t) (by omega)
    exact lst_ok _ (fun q g1 g2 => hs.2.1 q g1 (by omega))
  · simp only at ht
    have hlt := tk_lt (b := b) (n := n) (s := tkS b n t) (by omega)
    have hs := en_sp (P := isD) (b := b) (n := n) (p := tkS b n t) (by omega)
    have h2 : en isD b n (tkS b n t) - tkS b n t ≤ 2 := by
      unfold tkK at ht
      rw [if_neg (by omega)] at ht
      by_cases c1 : isL (b (tkS b n t)) = true
      · rw [if_pos c1] at ht
        by_cases c2 : en isL b n (tkS b n t) - tkS b n t ≤ 8
        · rw [if_pos c2] at ht
          have hs' := en_sp (P := isL) (b := b) (n := n) (p := tkS b n t) (by omega)
          have := (word_same (lst_ok (b := b) (s := tkS b n t) (en isL b n (tkS b n t) - tkS b n t) (fun q g1 g2 => hs'.2.1 q g1 (by omega))) (by rw [lst_len]; exact c2)).1.2
          omega
        · rw [if_neg c2] at ht; omega
      · rw [if_neg c1] at ht
        by_cases c2 : isD (b (tkS b n t)) = true
        · rw [if_pos c2] at ht
          by_cases c3 : en isD b n (tkS b n t) - tkS b n t ≤ 2
          · exact c3
          · rw [if_neg c3] at ht; omega
        · rw [if_neg c2] at ht
          by_cases c3 : b (tkS b n t) = 59
          · rw [if_pos c3] at ht; omega
          · rw [if_neg c3] at ht; omega
    have hd := dgt_bd (b := b) (s := tkS b n t) (en isD b n (tkS b n t) - tkS b n t) (fun q g1 g2 => hs.2.1 q g1 (by omega)) h2
    exact ⟨hd.1, hd.2.2⟩
/-- what the class does behind the codes -/
def parseX (σ20 : St) : Option (Int × St) := (if σ20 118 1 = 0 then (if σ20 118 8 = 0 then some (σ20 118 1, σ20) else (pt σ20 118 1 (σ20 118 8)).bind fun σ28 => (pt σ28 118 2 (σ28 118 9)).bind fun σ30 => some (σ30 118 1, σ30)) else some (σ20 118 1, σ20))
theorem parse_pre {b : Nat → Int} {n : Nat} {σ : St} (h : CTx b n σ) : ∃ τ, m_X4_parse σ = (lp (fun a => m_X4_parse_L43 a.1 a.2.1 a.2.2) (1, 0, τ)).bind parseX ∧ (∀ k j, ¬ (17 ≤ k ∧ k ≤ 20) → ¬ (118 ≤ k ∧ k ≤ 128) → ¬ (k = 16 ∧ j = 6) → τ k j = σ k j) ∧
    AC (fun t => tkK b n (tkS b n t)) (fun t => tkS b n t) (fun t => dgt b (tkS b n t) (en isD b n (tkS b n t) - tkS b n t)) (fun t => lst b (tkS b n t) (en isL b n (tkS b n t) - tkS b n t)) τ ∧
    CT (fun t => tkK b n (tkS b n t)) (fun t => tkS b n t) (fun t => dgt b (tkS b n t) (en isD b n (tkS b n t) - tkS b n t)) (fun t => lst b (tkS b n t) (en isL b n (tkS b n t) - tkS b n t)) 0 τ ∧
    (τ 118 1 = 0 ∧ τ 118 6 = 0 ∧ τ 118 7 = 0 ∧ τ 118 8 = 0) ∧ τ 119 7 = 0 ∧ τ 119 8 = 0 := by
  have hT : CTx b n (up (up σ 119 7 0) 119 8 0) := CTx_cg h (fun k j hk => by
    by_cases hk9 : k = 119
    · subst hk9; exact absurd hk (by simp [inR, inC])
    · rw [up_cell hk9, up_cell hk9])
  obtain ⟨τ1, o1, w1, hTk⟩ := scan_sp hT
  have f1 : ∀ k j, ¬ (17 ≤ k ∧ k ≤ 20) → ¬ (k = 16 ∧ j = 6) → τ1 k j = (up (up σ 119 7 0) 119 8 0) k j := fun k j n1 n2 => w1 k j (by
    cases hc : inR ([(17, 20)], [(16, 6)]) k j with
    | false => rfl
    | true =>
      exfalso
      simp only [inR, inC, inS, List.any_cons, List.any_nil, Bool.or_false, Bool.or_eq_true, Bool.and_eq_true, Nat.ble_eq, Nat.beq_eq] at hc
      omega)
  obtain ⟨τ2, h2⟩ : ∃ τ2, τ2 = up (up (up (up τ1 118 6 0) 118 7 0) 118 1 0) 118 8 0 := ⟨_, rfl⟩
  obtain ⟨τ, hτ⟩ : ∃ τ, τ = up (up (up (up (up τ2 118 10 0) 118 11 (τ2 17 0)) 118 12 (τ2 18 0)) 118 13 (τ2 19 0)) 118 14 (τ2 20 0) := ⟨_, rfl⟩
  have f2 : ∀ k j, k ≠ 118 → τ2 k j = τ1 k j := fun k j n1 => by rw [h2, up_cell n1, up_cell n1, up_cell n1, up_cell n1]
  have f3 : ∀ k j, k ≠ 118 → τ k j = τ2 k j := fun k j n1 => by rw [hτ, up_cell n1, up_cell n1, up_cell n1, up_cell n1, up_cell n1]
  have hcome : m_X4_comeTo 0 τ2 = some τ := by
    rw [m_X4_comeTo, pt_s, bnd_s, if_neg (by decide), if_neg (by decide), rd_ok (by decide) (by decide), bnd_s, up_cell (k' := 17) (by decide), pt_s, bnd_s, rd_ok (by decide) (by decide), bnd_s, up_cell (k' := 18) (by decide), up_cell (k' := 18) (by decide), pt_s, bnd_s, rd_ok (by decide) (by decide), bnd_s, up_cell (k' := 19) (by decide), up_cell (k' := 19) (by decide), up_cell (k' := 19) (by decide), pt_s, bnd_s, rd_ok (by decide) (by decide), bnd_s, up_cell (k' := 20) (by decide), up_cell (k' := 20) (by decide), up_cell (k' := 20) (by decide), up_cell (k' := 20) (by decide), pt_s, bnd_s, hτ]
    rfl
  have t0 := hTk 0 (by decide) (fun j hj => absurd hj (Nat.not_lt_zero _))
  obtain ⟨q1, q2, q3, q4⟩ := t0
  refine ⟨τ, ?_, fun k j n1 n2 n3 => ?_, fun t ht hv => ?_, ⟨?_, ?_, ?_, fun q => ?_, fun q => ?_⟩, ⟨?_, ?_, ?_, ?_⟩, ?_, ?_⟩
  · rw [m_X4_parse, m_X5_clear, pt_s, bnd_s, pt_s, bnd_s, bnd_s, o1, bnd_s, pt_s, bnd_s, pt_s, bnd_s, pt_s, bnd_s, pt_s, bnd_s, ← h2, hcome, bnd_s]
    rfl
  · rw [f3 k j (by omega), f2 k j (by omega), f1 k j n1 n3, up_cell (by omega), up_cell (by omega)]
  · obtain ⟨r1, r2, r3, r4⟩ := hTk t ht hv
    refine ⟨?_, ?_, fun q => ?_, fun q => ?_⟩
    · rw [f3 _ _ (by decide), f2 _ _ (by decide)]; exact r1
    · rw [f3 _ _ (by decide), f2 _ _ (by decide)]; exact r2
    · rw [f3 _ _ (by decide), f2 _ _ (by decide)]; exact r3 q
    · rw [f3 _ _ (by decide), f2 _ _ (by decide)]; exact r4 q
  · rw [hτ]; simp (disch := decide) only [up_eq, up_slot]; rfl
  · rw [hτ]; simp (disch := decide) only [up_eq, up_slot]; rw [f2 _ _ (by decide)]; exact q1
  · rw [hτ]; simp (disch := decide) only [up_eq, up_slot]; rw [f2 _ _ (by decide)]; exact q2
  · rw [hτ]; simp (disch := decide) only [up_eq, up_slot]; rw [f2 _ _ (by decide)]; exact q3 q
  · rw [hτ]; simp (disch := decide) only [up_eq, up_slot]; rw [f2 _ _ (by decide)]; exact q4 q
  · rw [hτ, h2]; simp (disch := decide) only [up_eq, up_slot]
  · rw [hτ, h2]; simp (disch := decide) only [up_eq, up_slot]
  · rw [hτ, h2]; simp (disch := decide) only [up_eq, up_slot]
  · rw [hτ, h2]; simp (disch := decide) only [up_eq, up_slot]
  · rw [f3 _ _ (by decide), f2 _ _ (by decide), f1 _ _ (by decide) (by decide), up_slot (by decide), up_eq]
  · rw [f3 _ _ (by decide), f2 _ _ (by decide), f1 _ _ (by decide) (by decide), up_eq]
/-- what the model does behind the codes -/
def readX (σ30 : St) : Option (Int × St) := (if σ30 170 12 ≤ 0 then (if σ30 170 14 ≤ 0 then m_X12_read_J149 σ30 (-1) else m_X12_read_J149 σ30 (σ30 170 15)) else m_X12_read_J149 σ30 (σ30 170 13))
theorem read_pre {b : Nat → Int} {n L : Nat} {σ : St} (h2 : σ 170 2 = (n : Int)) (hn : n ≤ 2000) (hb : ∀ p, p < n → andI (σ 171 p) 255 = b p) (hr : ∀ p, p < n → 0 ≤ b p ∧ b p ≤ 255) (hK : iKeys σ) (hL : L < 2) (h17 : σ 170 17 = (L : Int)) :
    ∃ τ, m_X12_read σ = (lp (fun a => m_X12_read_L97 a) τ).bind readX ∧ (∀ k j, ¬ (k = 170 ∧ (j = 0 ∨ j = 2 ∨ j = 4 ∨ j = 10 ∨ j = 11 ∨ j = 12 ∨ j = 14 ∨ j = 18 ∨ j = 22)) → ¬ (172 ≤ k ∧ k ≤ 176) → ¬ (k = 178 ∧ j = 1 - L) → τ k j = σ k j) ∧
    AM (fun t => tkK b n (tkS b n t)) (fun t => tkS b n t) (fun t => dgt b (tkS b n t) (en isD b n (tkS b n t) - tkS b n t)) (fun t => lst b (tkS b n t) (en isL b n (tkS b n t) - tkS b n t)) τ ∧
    (τ 170 11 = 0 ∧ τ 170 12 = 0 ∧ τ 170 14 = 0 ∧ τ 170 2 = 0) ∧ τ 170 18 = ((1 - L : Nat) : Int) ∧ τ 178 (1 - L) = 0 ∧ τ 170 22 = ((1000 * (1 - L) : Nat) : Int) := by
  obtain ⟨τ1, h1⟩ : ∃ τ1, τ1 = up (up σ 170 0 0) 170 4 (n : Int) := ⟨_, rfl⟩
  have e4 : τ1 170 4 = (n : Int) := by rw [h1, up_eq]
  have f1 : ∀ k j, ¬ (k = 170 ∧ (j = 0 ∨ j = 4)) → τ1 k j = σ k j := fun k j q => by
    rw [h1]
    unfold up
    rw [if_neg (by omega), if_neg (by omega)]
  have hcopy : Hp (lp (fun a => m_X12_read_L15 a.1 a.2) (0, τ1)) (fun z => (∀ k j, k ≠ 172 → z k j = τ1 k j) ∧ ∀ p, p < n → z 172 p = σ 171 p) := by
    refine Hp_up (fun j (z : Int × St) => z.1 = (j : Int) ∧ (∀ k i, k ≠ 172 → z.2 k i = τ1 k i) ∧ ∀ p, p < j → z.2 172 p = σ 171 p) 0 n (by omega) (Nat.zero_le _) ⟨rfl, fun _ _ _ => rfl, fun p hp => by omega⟩ ?_ ?_
    · rintro j ⟨x, z⟩ - hj ⟨e1, e2, e3⟩
      simp only at e1 e2 e3
      subst e1
      simp only [m_X12_read_L15]
      rw [e2 170 4 (by decide), e4, if_neg (by omega), rd_ok (by omega) (by omega), bnd_s, Int.toNat_natCast, wt_ok (by omega) (by omega), bnd_s, Int.toNat_natCast, nx1 (by omega), Hp_some, Lq_inl]
      refine ⟨rfl, fun k i hk => ?_, fun p hp => ?_⟩
      · simp only; rw [up_cell hk]; exact e2 k i hk
      · simp only
        by_cases hpj : p = j
        · subst hpj; rw [up_eq, e2 171 _ (by decide), f1 _ _ (by omega)]
        · rw [up_slot hpj]; exact e3 p (by omega)
    · rintro ⟨x, z⟩ ⟨e1, e2, e3⟩
      simp only at e1 e2 e3
      subst e1
      simp only [m_X12_read_L15]
      rw [e2 170 4 (by decide), e4, if_pos (Int.le_refl _), Hp_some, Lq_inr]
      exact ⟨e2, e3⟩
  obtain ⟨τ2, o2, f2, g2⟩ := hcopy
  obtain ⟨τ3, h3⟩ : ∃ τ3, τ3 = up τ2 170 2 0 := ⟨_, rfl⟩
  have f3 : ∀ k j, ¬ (k = 170 ∧ j = 2) → τ3 k j = τ2 k j := fun k j q => by
    rw [h3]
    unfold up
    rw [if_neg (by omega)]
  have hM : MTx b n τ3 := ⟨⟨by rw [f3 _ _ (by omega), f2 _ _ (by decide)]; exact e4, hn⟩, fun p hp => by rw [f3 _ _ (by omega), g2 p hp]; exact hb p hp, hr, fun k hk => by rw [f3 _ _ (by omega), f2 _ _ (by decide), f1 _ _ (by omega)]; exact hK k hk⟩
  obtain ⟨τ4, o4, w4, g4⟩ := cut_sp hM
  have f4 : ∀ k j, ¬ (173 ≤ k ∧ k ≤ 176) → ¬ (k = 170 ∧ j = 10) → τ4 k j = τ3 k j := fun k j n1 n2 => w4 k j (by
    cases hc : inR ([(173, 176)], [(170, 10)]) k j with
    | false => rfl
    | true =>
      exfalso
      simp only [inR, inC, inS, List.any_cons, List.any_nil, Bool.or_false, Bool.or_eq_true, Bool.and_eq_true, Nat.ble_eq, Nat.beq_eq] at hc
      omega)
  have e17 : τ4 170 17 = (L : Int) := by rw [f4 _ _ (by omega) (by omega), f3 _ _ (by omega), f2 _ _ (by decide), f1 _ _ (by omega)]; exact h17
  obtain ⟨τ5, h5⟩ : ∃ τ5, τ5 = up (up (up (up τ4 170 11 0) 170 12 0) 170 14 0) 170 18 ((1 - L : Nat) : Int) := ⟨_, rfl⟩
  have f5 : ∀ k j, ¬ (k = 170 ∧ (j = 11 ∨ j = 12 ∨ j = 14 ∨ j = 18)) → τ5 k j = τ4 k j := fun k j q => by
    rw [h5]
    unfold up
    rw [if_neg (by omega), if_neg (by omega), if_neg (by omega), if_neg (by omega)]
  have e18 : τ5 170 18 = ((1 - L : Nat) : Int) := by rw [h5, up_eq]
  obtain ⟨τ6, h6⟩ : ∃ τ6, τ6 = up (up τ5 178 (1 - L) 0) 170 22 ((1000 * (1 - L) : Nat) : Int) := ⟨_, rfl⟩
  have f6 : ∀ k j, ¬ (k = 178 ∧ j = 1 - L) → ¬ (k = 170 ∧ j = 22) → τ6 k j = τ5 k j := fun k j n1 n2 => by
    rw [h6]
    unfold up
    rw [if_neg (by omega), if_neg (by omega)]
  refine ⟨τ6, ?_, fun k j n1 n2 n3 => ?_, fun t ht hv => ?_, ⟨?_, ?_, ?_, ?_⟩, ?_, ?_, ?_⟩
  · have ew : wr (1 - (L : Int)) = ((1 - L : Nat) : Int) := by rw [wr_id' (by omega) (by omega)]; omega
    have ew2 : wr (1000 * ((1 - L : Nat) : Int)) = ((1000 * (1 - L) : Nat) : Int) := by rw [wr_id' (by omega) (by omega)]; omega
    rw [m_X12_read, pt_s, bnd_s, up_slot (j := 2) (by decide), h2, pt_s, bnd_s, ← h1, o2, bnd_s, pt_s, bnd_s, ← h3, o4, bnd_s, pt_s, bnd_s, pt_s, bnd_s, pt_s, bnd_s, up_slot (j := 17) (by decide), up_slot (j := 17) (by decide), up_slot (j := 17) (by decide), e17, ew, pt_s, bnd_s, ← h5, e18, wt_ok (by omega) (by omega), bnd_s, Int.toNat_natCast, up_cell (k' := 170) (by decide), e18, ew2, pt_s, bnd_s, ← h6]
    rfl
  · rw [f6 k j n3 (by omega), f5 k j (by omega), f4 k j (by omega) (by omega), f3 k j (by omega), f2 k j (by omega), f1 k j (by omega)]
  · obtain ⟨r1, r2, r3, r4⟩ := g4 t ht hv
    have hmk : tkM b n (tkS b n t) = MK (tkK b n (tkS b n t)) := tk_same.2
    have cg : ∀ k j, 173 ≤ k → k ≤ 176 → τ6 k j = τ4 k j := fun k j a1 a2 => (f6 k j (by omega) (by omega)).trans (f5 k j (by omega))
    refine ⟨?_, ?_, fun q => ?_, fun q => ?_⟩
    · rw [cg _ _ (by decide) (by decide), r1]; exact hmk
    · rw [cg _ _ (by decide) (by decide)]; exact r2
    · rw [cg _ _ (by decide) (by decide)]
      exact r3 (by
        simp only at q
        rw [hmk, q]; rfl)
    · rw [cg _ _ (by decide) (by decide)]
      exact r4 (by
        simp only at q
        rw [hmk, q]; rfl)
  · rw [f6 _ _ (by omega) (by omega), h5]; simp (disch := decide) only [up_eq, up_slot]
  · rw [f6 _ _ (by omega) (by omega), h5]; simp (disch := decide) only [up_eq, up_slot]
  · rw [f6 _ _ (by omega) (by omega), h5]; simp (disch := decide) only [up_eq, up_slot]
  · rw [f6 _ _ (by omega) (by omega), f5 _ _ (by omega), f4 _ _ (by omega) (by omega), h3, up_eq]
  · rw [f6 _ _ (by omega) (by omega)]; exact e18
  · rw [h6, up_cell (by decide), up_eq]
  · rw [h6, up_eq]
/-- the draft becomes the program -/
def BecP (σ τ : St) : Prop := (∀ k j, ¬ (22 ≤ k ∧ k ≤ 29) → τ k j = σ k j) ∧ (∀ i j, 1 ≤ i → i ≤ 5 → j < 512 → τ (22 + i) j = σ (119 + i) j) ∧ (∀ j, j < 8 → τ 29 j = σ 126 j) ∧ τ 22 7 = σ 119 7 ∧ τ 22 8 = σ 119 8
theorem bec_2 {σ : St} : Hp (lp (fun a => m_X5_become_L2 119 22 a.1 a.2) (0, σ)) (fun τ => (∀ k j, ¬ (23 ≤ k ∧ k ≤ 27) → τ k j = σ k j) ∧ ∀ i j, 1 ≤ i → i ≤ 5 → j < 512 → τ (22 + i) j = σ (119 + i) j) := by
  refine Hp_up (fun p (z : Int × St) => z.1 = (p : Int) ∧ (∀ k j, ¬ (23 ≤ k ∧ k ≤ 27) → z.2 k j = σ k j) ∧ ∀ i j, 1 ≤ i → i ≤ 5 → j < p → z.2 (22 + i) j = σ (119 + i) j) 0 512 (by omega) (by omega) ⟨rfl, fun _ _ _ => rfl, fun i j _ _ h => by omega⟩ ?_ ?_
  · rintro p ⟨x, z⟩ - hp ⟨e1, e2, e3⟩
    simp only at e1 e2 e3
    subst e1
    simp only [m_X5_become_L2]
    rw [if_neg (by omega), rd_ok (by omega) (by omega), bnd_s, Int.toNat_natCast, wt_ok (by omega) (by omega), bnd_s, Int.toNat_natCast, rd_ok (by omega) (by omega), bnd_s, Int.toNat_natCast, wt_ok (by omega) (by omega), bnd_s, Int.toNat_natCast, rd_ok (by omega) (by omega), bnd_s, Int.toNat_natCast, wt_ok (by omega) (by omega), bnd_s, Int.toNat_natCast, rd_ok (by omega) (by omega), bnd_s, Int.toNat_natCast, wt_ok (by omega) (by omega), bnd_s, Int.toNat_natCast, rd_ok (by omega) (by omega), bnd_s, Int.toNat_natCast, wt_ok (by omega) (by omega), bnd_s, Int.toNat_natCast, nx1 (by omega), Hp_some, Lq_inl]
    refine ⟨rfl, fun k j n1 => ?_, fun i j i1 i2 hj => ?_⟩
    · simp only
      rw [up_cell (by omega), up_cell (by omega), up_cell (by omega), up_cell (by omega), up_cell (by omega)]; exact e2 k j n1
    · simp only
      have c1 : z (119 + 1) p = σ (119 + 1) p := e2 _ _ (by omega)
      have c2 : (up z (22 + 1) p (z (119 + 1) p)) (119 + 2) p = σ (119 + 2) p := by rw [up_cell (by decide)]; exact e2 _ _ (by omega)
      by_cases hjp : j = p
      · subst hjp
        have hi : i = 1 ∨ i = 2 ∨ i = 3 ∨ i = 4 ∨ i = 5 := by omega
        rcases hi with q | q | q | q | q <;> subst q
        · rw [up_cell (by decide), up_cell (by decide), up_cell (by decide), up_cell (by decide), up_eq]; exact e2 _ _ (by omega)
        · rw [up_cell (by decide), up_cell (by decide), up_cell (by decide), up_eq, up_cell (by decide)]; exact e2 _ _ (by omega)
        · rw [up_cell (by decide), up_cell (by decide), up_eq, up_cell (by decide), up_cell (by decide)]; exact e2 _ _ (by omega)
        · rw [up_cell (by decide), up_eq, up_cell (by decide), up_cell (by decide), up_cell (by decide)]; exact e2 _ _ (by omega)
        · rw [up_eq, up_cell (by decide), up_cell (by decide), up_cell (by decide), up_cell (by decide)]; exact e2 _ _ (by omega)
      · rw [up_slot hjp, up_slot hjp, up_slot hjp, up_slot hjp, up_slot hjp]; exact e3 i j i1 i2 (by omega)
  · rintro ⟨x, z⟩ ⟨e1, e2, e3⟩
    simp only at e1 e2 e3
    subst e1
    simp only [m_X5_become_L2]
    rw [if_pos (by omega), Hp_some, Lq_inr]
    exact ⟨e2, e3⟩
theorem bec_77 {σ : St} : Hp (lp (fun a => m_X5_become_L77 119 22 a.1 a.2) (0, σ)) (fun τ => (∀ k j, ¬ (28 ≤ k ∧ k ≤ 29) → τ k j = σ k j) ∧ ∀ j, j < 8 → τ 29 j = σ 126 j) := by
  refine Hp_up (fun p (z : Int × St) => z.1 = (p : Int) ∧ (∀ k j, ¬ (28 ≤ k ∧ k ≤ 29) → z.2 k j = σ k j) ∧ ∀ j, j < p → z.2 29 j = σ 126 j) 0 8 (by omega) (by omega) ⟨rfl, fun _ _ _ => rfl, fun j h => by omega⟩ ?_ ?_
  · rintro p ⟨x, z⟩ - hp ⟨e1, e2, e3⟩
    simp only at e1 e2 e3
    subst e1
    simp only [m_X5_become_L77]
    rw [if_neg (by omega), rd_ok (by omega) (by omega), bnd_s, Int.toNat_natCast, wt_ok (by omega) (by omega), bnd_s, Int.toNat_natCast, rd_ok (by omega) (by omega), bnd_s, Int.toNat_natCast, wt_ok (by omega) (by omega), bnd_s, Int.toNat_natCast, nx1 (by omega), Hp_some, Lq_inl]
    refine ⟨rfl, fun k j n1 => ?_, fun j hj => ?_⟩
    · simp only
      rw [up_cell (by omega), up_cell (by omega)]; exact e2 k j n1
    · simp only
      by_cases hjp : j = p
      · subst hjp
        rw [up_eq, up_cell (by decide)]; exact e2 126 _ (by omega)
      · rw [up_slot hjp, up_slot hjp]; exact e3 j (by omega)
  · rintro ⟨x, z⟩ ⟨e1, e2, e3⟩
    simp only at e1 e2 e3
    subst e1
    simp only [m_X5_become_L77]
    rw [if_pos (by omega), Hp_some, Lq_inr]
    exact ⟨e2, e3⟩
theorem become_sp {σ : St} : Hp (m_X5_become 22 119 σ) (BecP σ) := by
  rw [m_X5_become, Hp_bind]
  refine Hp_mono bec_2 ?_
  rintro τ1 ⟨a1, a2⟩
  rw [Hp_bind]
  refine Hp_mono bec_77 ?_
  rintro τ2 ⟨b1, b2⟩
  rw [pt_s, bnd_s, pt_s, bnd_s, Hp_some]
  have e7 : τ2 119 7 = σ 119 7 := (b1 _ _ (by omega)).trans (a1 _ _ (by omega))
  have e8 : τ2 119 8 = σ 119 8 := (b1 _ _ (by omega)).trans (a1 _ _ (by omega))
  refine ⟨fun k j n1 => ?_, fun i j i1 i2 hj => ?_, fun j hj => ?_, ?_, ?_⟩
  · rw [up_cell (by omega), up_cell (by omega), b1 _ _ (by omega)]; exact a1 _ _ (by omega)
  · rw [up_cell (by omega), up_cell (by omega), b1 _ _ (by omega)]; exact a2 i j i1 i2 hj
  · rw [up_cell (by decide), up_cell (by decide), b2 j hj]; exact a1 _ _ (by omega)
  · rw [up_slot (by decide), up_eq]; exact e7
  · rw [up_eq, up_cell (by decide)]; exact e8
theorem ag_36 {σ : St} : Hp (lp (fun a => m_X11_read_L36 a.1 a.2) (0, σ)) (fun τ => (∀ k j, ¬ ((39 ≤ k ∧ k ≤ 88 ∧ (k - 39) % 7 = 0) ∧ j = 2) → τ k j = σ k j) ∧ ∀ a, a < 8 → τ (39 + 7 * a) 2 = -1) := by
  refine Hp_up (fun p (z : Int × St) => z.1 = (p : Int) ∧ (∀ k j, ¬ ((39 ≤ k ∧ k ≤ 88 ∧ (k - 39) % 7 = 0) ∧ j = 2) → z.2 k j = σ k j) ∧ ∀ a, a < p → z.2 (39 + 7 * a) 2 = -1) 0 8 (by omega) (by omega) ⟨rfl, fun _ _ _ => rfl, fun a h => by omega⟩ ?_ ?_
  · rintro p ⟨x, z⟩ - hp ⟨e1, e2, e3⟩
    simp only at e1 e2 e3
    subst e1
    simp only [m_X11_read_L36]
    rw [if_neg (by omega), rr_ok (by omega) (by omega), bnd_s, Int.toNat_natCast, rf_ag hp, pt_s, bnd_s, nx1 (by omega), Hp_some, Lq_inl]
    refine ⟨rfl, fun k j n1 => ?_, fun a ha => ?_⟩
    · simp only
      by_cases hk : k = 39 + 7 * p
      · subst hk; rw [up_slot (by omega)]; exact e2 _ _ n1
      · rw [up_cell hk]; exact e2 _ _ n1
    · simp only
      by_cases hap : a = p
      · subst hap; rw [up_eq]
      · rw [up_cell (by omega)]; exact e3 a (by omega)
  · rintro ⟨x, z⟩ ⟨e1, e2, e3⟩
    simp only at e1 e2 e3
    subst e1
    simp only [m_X11_read_L36]
    rw [if_pos (by omega), Hp_some, Lq_inr]
    exact ⟨e2, e3⟩
theorem mag_186 {σ : St} : Hp (lp (fun a => m_X12_read_L186 a.1 a.2) (0, σ)) (fun τ => (∀ k j, k ≠ 192 → τ k j = σ k j) ∧ ∀ a, a < 8 → τ 192 a = -1) := by
  refine Hp_up (fun p (z : Int × St) => z.1 = (p : Int) ∧ (∀ k j, k ≠ 192 → z.2 k j = σ k j) ∧ ∀ a, a < p → z.2 192 a = -1) 0 8 (by omega) (by omega) ⟨rfl, fun _ _ _ => rfl, fun a h => by omega⟩ ?_ ?_
  · rintro p ⟨x, z⟩ - hp ⟨e1, e2, e3⟩
    simp only at e1 e2 e3
    subst e1
    simp only [m_X12_read_L186]
    rw [if_neg (by omega), wt_ok (by omega) (by omega), bnd_s, Int.toNat_natCast, nx1 (by omega), Hp_some, Lq_inl]
    refine ⟨rfl, fun k j n1 => ?_, fun a ha => ?_⟩
    · simp only
      rw [up_cell n1]; exact e2 _ _ n1
    · simp only
      by_cases hap : a = p
      · subst hap; rw [up_eq]
      · rw [up_slot hap]; exact e3 a (by omega)
  · rintro ⟨x, z⟩ ⟨e1, e2, e3⟩
    simp only at e1 e2 e3
    subst e1
    simp only [m_X12_read_L186]
    rw [if_pos (by omega), Hp_some, Lq_inr]
    exact ⟨e2, e3⟩
/-- a program looks at its own half alone -/
theorem pgt_half {σ σ' : St} {L n c : Nat} {f : Nat → Nat} {cx : Nat → List Bool} {cd : Nat → Nat} (h : PgT σ 22 L n c f cx cd) (hC : ∀ k j, 22 ≤ k → k ≤ 29 → σ' k j = σ k j) (h180 : ∀ i, i < 8 → σ' 180 (8 * L + i) = σ 180 (8 * L + i)) (hM : ∀ k i, 181 ≤ k → k ≤ 184 → 1000 * L ≤ i → i < 1000 * L + 1000 → σ' k i = σ k i) : PgT σ' 22 L n c f cx cd := by
  obtain ⟨⟨n1, n2, n3, n4⟩, P1, P2, P3⟩ := h
  have fm := dr_mono (fun p hp => (P1 p hp).1)
  have fr : ∀ p, p < n → 1000 * L ≤ f p ∧ f p < f n := fun p hp => by
    have h2 := fm n p hp (Nat.le_refl _)
    by_cases hz : p = 0
    · subst hz; omega
    · have := fm p 0 (by omega) (by omega); omega
  refine ⟨⟨n1, n2, n3, n4⟩, fun p hp => ?_, P2, fun i hi => ?_⟩
  · obtain ⟨q1, q2, q3, q4⟩ := P1 p hp
    obtain ⟨r1, r2⟩ := fr p hp
    refine ⟨q1, q2, q3, ?_⟩
    have e1 : ∀ j, σ' (22 + 1) j = σ (22 + 1) j := fun j => hC _ j (by decide) (by decide)
    have m1 : ∀ k, 181 ≤ k → k ≤ 184 → σ' k (f p) = σ k (f p) := fun k a1 a2 => hM k _ a1 a2 (by omega) (by omega)
    unfold StOK at q4 ⊢
    rw [hC (22 + 1) p (by decide) (by decide), hC (22 + 2) p (by decide) (by decide), hC (22 + 3) p (by decide) (by decide), hC (22 + 4) p (by decide) (by decide), hC (22 + 5) p (by decide) (by decide), m1 181 (by decide) (by decide), m1 182 (by decide) (by decide), m1 183 (by decide) (by decide), m1 184 (by decide) (by decide)]
    rcases q4 with h | h | h | h | h | h | h | ⟨h1, h2, r, t, h8, h9, h10, h11⟩ | h
    · exact Or.inl h
    · exact Or.inr (Or.inl h)
    · exact Or.inr (Or.inr (Or.inl h))
    · exact Or.inr (Or.inr (Or.inr (Or.inl h)))
    · exact Or.inr (Or.inr (Or.inr (Or.inr (Or.inl h))))
    · exact Or.inr (Or.inr (Or.inr (Or.inr (Or.inr (Or.inl h)))))
    · exact Or.inr (Or.inr (Or.inr (Or.inr (Or.inr (Or.inr (Or.inl h))))))
    · refine Or.inr (Or.inr (Or.inr (Or.inr (Or.inr (Or.inr (Or.inr (Or.inl ⟨h1, h2, r, t, h8, h9, h10, ?_⟩)))))))
      rcases h11 with h11 | ⟨g1, g2, g3⟩
      · exact Or.inl h11
      · exact Or.inr ⟨by rw [hM _ _ (by decide) (by decide) (by omega) (by omega)]; exact g1, by rw [hM _ _ (by decide) (by decide) (by omega) (by omega)]; exact g2, g3⟩
    · exact Or.inr (Or.inr (Or.inr (Or.inr (Or.inr (Or.inr (Or.inr (Or.inr h)))))))
  · obtain ⟨b, b1, b2, b3, b4, b5⟩ := P3 i hi
    exact ⟨b, by rw [hC (22 + 7) i (by decide) (by decide)]; exact b1, b2, b3, b4, by rw [h180 i (by omega)]; exact b5⟩
