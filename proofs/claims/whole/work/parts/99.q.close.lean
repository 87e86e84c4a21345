/-! THE DRAFT, where blocks close -/
section
variable {S n m c j p a w : Nat} {x : List Bool} {f : Nat → Nat} {cx : Nat → List Bool} {cd : Nat → Nat} {τ τm τ' τm' : St}
theorem drp_pc {o o' : Nat → Prop} (h : DrP S n m c f cx cd o τ τm) (hw : 1 ≤ w) (hp : p < n) (ha : f p ≤ a ∧ a < f (p + 1))
    (gC : ∀ i k, 120 ≤ i → i ≤ 124 → k ≠ n → ¬ (i = 124 ∧ k = p) → τ' i k = τ i k) (g126 : τ' 126 = τ 126) (gM : ∀ k i, 181 ≤ k → k ≤ 184 → i < 1000 * S + m → i ≠ a → τm' k i = τm k i) (g180 : τm' 180 = τm 180) (hxl : (cx n).length ≤ 6)
    (ho : ∀ q, q < n → q ≠ p → ¬ o' q → ¬ o q) (hn : ¬ o' n → SOK τ' τm' (n + 2) (exn f n (f n + w)) (exn cx n x) (exn cd n c) n) (hpp : SOK τ' τm' (n + 2) (exn f n (f n + w)) (exn cx n x) (exn cd n c) p) : DrP S (n + 1) (m + w) c (exn f n (f n + w)) (exn cx n x) (exn cd n c) o' τ' τm' := by
  obtain ⟨⟨h1, h2⟩, h3, ⟨h4, h5⟩, h6, h7⟩ := h
  have fm := dr_mono (fun p hp => (h3 p hp).1)
  refine ⟨⟨by rw [exn_le (Nat.zero_le _)]; exact h1, by rw [exn_eq, h2]; omega⟩, fun q hq => ?_, ⟨exn_eq, fun q r hqr hr => ?_⟩, fun i hi => ?_, fun q hq hoq => ?_⟩
  · by_cases hqn : q = n
    · subst hqn
      rw [exn_le (Nat.le_refl _), exn_eq, exn_le (Nat.le_refl _)]
      exact ⟨by omega, hxl⟩
    · rw [exn_le (by omega), exn_le (by omega), exn_le (by omega)]; exact h3 q (by omega)
  · by_cases hrn : r = n + 1
    · subst hrn
      rw [exn_eq]
      by_cases hqn : q = n + 1
      · subst hqn; rw [exn_eq]; exact Nat.le_refl _
      · rw [exn_le (by omega), ← h4]; exact h5 q n (by omega) (Nat.le_refl _)
    · rw [exn_le (by omega), exn_le (by omega)]; exact h5 q r hqr (by omega)
  · obtain ⟨b, b1, b2, b3, b4, b5⟩ := h6 i hi
    exact ⟨b, by rw [g126]; exact b1, by omega, by rw [exn_le b2]; exact b3, by rw [exn_le b2]; exact b4, by rw [exn_le b2, g180]; exact b5⟩
  · by_cases hqn : q = n
    · subst hqn; exact hn hoq
    · by_cases hqp : q = p
      · subst hqp; exact hpp
      · have hf1 : f q < f n := fm n q (by omega) (Nat.le_refl _)
        have hne : f q < a ∧ f (q + 1) ≤ f p ∨ a < f q := by
          by_cases hlt : q < p
          · have h8 : f (q + 1) ≤ f p := by
              by_cases hq1 : q + 1 = p
              · rw [hq1]; exact Nat.le_refl _
              · exact Nat.le_of_lt (fm p (q + 1) (by omega) (by omega))
            have := fm p q hlt (by omega)
            exact Or.inl ⟨by omega, h8⟩
          · have h8 : f (p + 1) ≤ f q := by
              by_cases hp1 : p + 1 = q
              · rw [hp1]; exact Nat.le_refl _
              · exact Nat.le_of_lt (fm q (p + 1) (by omega) (by omega))
            exact Or.inr (by omega)
        refine sok_cg (h7 q (by omega) (ho q (by omega) hqp hoq)) (by omega) (by omega) exn_all (fun i i1 i2 => gC i q i1 i2 hqn (by omega)) (fun i i1 i2 => gM i _ i1 i2 (by omega) (by omega)) (fun q1 q2 => ?_)
        have hf2 : f (q + 1) ≤ f n := by
          by_cases hq1 : q + 1 = n
          · rw [hq1]; exact Nat.le_refl _
          · exact Nat.le_of_lt (fm n (q + 1) (by omega) (Nat.le_refl _))
        exact ⟨gM _ _ (by decide) (by decide) (by omega) (by omega), gM _ _ (by decide) (by decide) (by omega) (by omega)⟩
/-- the lower blocks stay -/
theorem drq_pc {nb : Nat} {o : Nat → Prop} (hP : DrP S n m c f cx cd o τ τm) (h : DrQ n c nb f cx cd τ τm) (hj : j < nb) (hpj : τ 128 j = (p : Int)) (hp : p < n) (ha : f p ≤ a ∧ a < f (p + 1))
    (gC : ∀ i k, 120 ≤ i → i ≤ 123 → k ≠ n → τ' i k = τ i k) (gB : ∀ i, i < j → τ' 127 i = τ 127 i ∧ τ' 128 i = τ 128 i ∧ τm' 186 (i + 1) = τm 186 (i + 1)) (gM : ∀ k i, 181 ≤ k → k ≤ 183 → i < 1000 * S + m → i ≠ a → τm' k i = τm k i) :
    (∀ i, i < j → ∃ q b : Nat, τ' 128 i = (q : Int) ∧ τm' 186 (i + 1) = (b : Int) ∧ q < n ∧ exn cd n c q = c ∧ OP τ' τm' (n + 2) (exn f n (f n + w)) (exn cx n x) (exn cd n c) (τ' 127 i) b (CX (τ' 127) i) q) ∧ (∀ i k, i < k → k < j → τ' 128 i < τ' 128 k) ∧ ∀ i, i < j → τ' 128 i < (p : Int) := by
  obtain ⟨⟨h1, h2⟩, h3, -⟩ := hP
  obtain ⟨g1, g2, g3⟩ := h
  have fm := dr_mono (fun p hp => (h3 p hp).1)
  refine ⟨fun i hi => ?_, fun i k hik hk => ?_, fun i hi => ?_⟩
  · obtain ⟨q, b, k1, k2, k3, k4, k5⟩ := g2 i (by omega)
    obtain ⟨e1, e2, e3⟩ := gB i hi
    have hlt : q < p := by
      have := g3 i j hi hj
      omega
    have hf1 : f q < f n := fm n q (by omega) (Nat.le_refl _)
    have h8 : f (q + 1) ≤ f p := by
      by_cases hq1 : q + 1 = p
      · rw [hq1]; exact Nat.le_refl _
      · exact Nat.le_of_lt (fm p (q + 1) (by omega) (by omega))
    have h9 := fm p q hlt (by omega)
    have h10 : f p < f n := fm n p hp (Nat.le_refl _)
    refine ⟨q, b, by rw [e2]; exact k1, by rw [e3]; exact k2, k3, by rw [exn_le (by omega)]; exact k4, ?_⟩
    rw [e1, CX_cg i (fun k hk => (gB k (by omega)).1)]
    exact op_cg k5 (by omega) (by omega) exn_all (fun i i1 i2 => gC i q i1 i2 (by omega)) (fun i i1 i2 => gM i _ i1 i2 (by omega) (by omega)) (fun q1 q2 => gM _ _ (by decide) (by decide) (by omega) (by omega))
  · rw [(gB i (by omega)).2.1, (gB k hk).2.1]; exact g3 i k hik (by omega)
  · rw [(gB i hi).2.1, ← hpj]; exact g3 i j hi hj
/-- the top block's step -/
theorem dr_top {nb : Nat} (h : DrQ n c nb f cx cd τ τm) (hj : j < nb) : ∃ p a : Nat, τ 128 j = (p : Int) ∧ τm 186 (j + 1) = (a : Int) ∧ p < n ∧ cd p = c ∧ OP τ τm (n + 1) f cx cd (τ 127 j) a (CX (τ 127) j) p := h.2.1 j hj
theorem cx13 {kd : Nat → Int} (h : kd j = 13) : CX kd (j + 1) = true :: CX kd j := by
  show (if kd j = 13 then _ else _) = _
  rw [if_pos h]
theorem cx15 {kd : Nat → Int} (h : kd j = 15) : CX kd (j + 1) = false :: CX kd j := by
  show (if kd j = 13 then _ else _) = _
  rw [if_neg (by omega), if_pos h]
theorem cx9 {kd : Nat → Int} (h : kd j = 9 ∨ kd j = 4) : CX kd (j + 1) = CX kd j := by
  show (if kd j = 13 then _ else _) = _
  rw [if_neg (by omega), if_neg (by omega)]
theorem opn_dn {nb : Nat} (h : ∀ i, i < nb → τ' 128 i = τ 128 i) {q : Nat} (hq : ¬ Opn nb τ' q) (hne : τ 128 nb ≠ (q : Int)) : ¬ Opn (nb + 1) τ q := by
  rintro ⟨i, hi, e⟩
  by_cases hin : i = nb
  · subst hin; exact hne e
  · exact hq ⟨i, by omega, by rw [h i (by omega)]; exact e⟩
/-- the end of a loop -/
theorem close_loop (hP : DrP S n m c f cx cd (Opn (j + 1) τ) τ τm) (hQ : DrQ n c (j + 1) f cx cd τ τm) (hj6 : j < 6) (hk : τ 127 j = 13) (hpj : τ 128 j = (p : Int)) (haj : τm 186 (j + 1) = (a : Int))
    (gC : ∀ i k, 120 ≤ i → i ≤ 124 → k ≠ n → ¬ (i = 124 ∧ k = p) → τ' i k = τ i k) (gB : ∀ i, i ≤ j → τ' 127 i = τ 127 i ∧ τ' 128 i = τ 128 i ∧ τm' 186 (i + 1) = τm 186 (i + 1)) (g126 : τ' 126 = τ 126) (g180 : τm' 180 = τm 180)
    (gM : ∀ k i, 181 ≤ k → k ≤ 184 → i < 1000 * S + m → ¬ (k = 184 ∧ i = a) → τm' k i = τm k i)
    (v1 : τ' 120 n = 31) (v2 : τ' 124 n = (p : Int) + 1) (v3 : τ' 124 p = ((n + 1 : Nat) : Int)) (w1 : τm' 181 (1000 * S + m) = 13) (w2 : τm' 182 (1000 * S + m) = (a : Int) + 1) (w3 : τm' 184 a = ((1000 * S + m + 1 : Nat) : Int)) :
    ∃ f' cx' cd', DrP S (n + 1) (m + 1) c f' cx' cd' (Opn j τ') τ' τm' ∧ DrQ (n + 1) c j f' cx' cd' τ' τm' := by
  obtain ⟨p', a', k1, k2, k3, k4, k5⟩ := dr_top hQ (Nat.lt_succ_self j)
  have ep : p' = p := by omega
  have ea : a' = a := by omega
  subst ep; subst ea
  have fn := hP.1.2
  have cn := hQ.1
  rw [cx13 hk] at cn
  have fm := dr_mono (fun p hp => (hP.2.1 p hp).1)
  rcases k5 with ⟨-, y1, y2, y3, y4, y5, y6, y7, y8, y9⟩ | ⟨q, -⟩ | ⟨q, -⟩ | ⟨q, -⟩ | ⟨q, -⟩
  · have hs1 := y8.1
    have hs2 := y8.2.1
    have hs3 := y8.2.2
    have har : f p' ≤ a' ∧ a' < f (p' + 1) := by omega
    have cdn : cd n = c := hP.2.2.1.1
    have hcx' : CX (τ' 127) j = CX (τ 127) j := CX_cg j (fun i hi => (gB i (by omega)).1)
    have hle : f p' < f n := fm n p' k3 (Nat.le_refl _)
    refine ⟨exn f n (f n + 1), exn cx n (CX (τ 127) j), exn cd n c, ?_, ?_⟩
    · refine drp_pc hP (Nat.le_refl _) k3 har gC g126 (fun k i h1 h2 h3 h4 => gM k i h1 h2 h3 (by omega)) g180 (by rw [hQ.1]; exact Nat.le_trans (CX_len _) (by omega)) (fun q hq hne hno => opn_dn (fun i hi => (gB i (by omega)).2.1) hno (fun e => hne (by omega))) (fun _ => ?_) ?_
      · refine Or.inr (Or.inr (Or.inr (Or.inl ⟨v1, ?_, ⟨by omega, ?_, ?_⟩, ?_, p' + 1, ⟨v2, by omega, ?_, ?_⟩, by omega, ?_⟩)))
        · rw [exn_le (Nat.le_refl _), fn]; exact w1
        · rw [exn_eq, exn_le (Nat.le_refl _)]
        · rw [exn_eq, exn_le (Nat.le_refl _), cdn]
        · rw [exn_le (Nat.le_refl _), exn_eq, cn]
        · rw [exn_le (by omega), exn_le (Nat.le_refl _), y9, y2, cn]
        · rw [exn_le (by omega), exn_le (Nat.le_refl _), hs3, k4, cdn]
        · rw [exn_le (Nat.le_refl _), exn_le (by omega), fn, w2, hs2]; omega
      · have e0 : exn f n (f n + 1) p' = f p' := exn_le (by omega)
        refine Or.inr (Or.inr (Or.inl ⟨?_, ?_, ?_, ?_, ?_, ⟨by omega, ?_, ?_⟩, ?_, n + 1, ⟨v3, by omega, ?_, ?_⟩, by omega, ?_⟩))
        · rw [gC _ _ (by omega) (by omega) (by omega) (by omega)]; exact y3
        · rw [e0, gM _ _ (by omega) (by omega) (by omega) (by omega)]; exact y4
        · rw [e0, gM _ _ (by omega) (by omega) (by omega) (by omega), gC _ _ (by omega) (by omega) (by omega) (by omega)]; exact y5
        · rw [gC _ _ (by omega) (by omega) (by omega) (by omega)]; exact y6
        · rw [gC _ _ (by omega) (by omega) (by omega) (by omega)]; exact y7
        · rw [exn_le (by omega), e0]; exact hs2
        · rw [exn_le (by omega), exn_le (by omega)]; exact hs3
        · rw [exn_le (by omega), exn_le (by omega)]; exact y9
        · rw [exn_eq, exn_le (by omega), y2]
        · rw [exn_eq, exn_le (by omega), k4]
        · rw [e0, exn_eq, ← y1, w3, fn]
    · obtain ⟨b1, b2, b3⟩ := drq_pc (τ' := τ') (τm' := τm') (w := 1) (x := CX (τ 127) j) hP hQ (Nat.lt_succ_self j) hpj k3 har (fun i k h1 h2 h3 => gC i k h1 (by omega) h3 (by omega)) (fun i hi => gB i (by omega)) (fun k i h1 h2 h3 h4 => gM k i h1 (by omega) h3 (by omega))
      refine ⟨by rw [exn_eq, hcx'], fun i hi => ?_, b2⟩
      obtain ⟨q, b, d1, d2, d3, d4, d5⟩ := b1 i hi
      exact ⟨q, b, d1, d2, by omega, d4, d5⟩
  · rw [hk] at q; exact absurd q (by decide)
  · rw [hk] at q; exact absurd q (by decide)
  · rw [hk] at q; exact absurd q (by decide)
  · rw [hk] at q; exact absurd q (by decide)
/-- the end of a meet without else -/
theorem close_meet (hP : DrP S n m c f cx cd (Opn (j + 1) τ) τ τm) (hQ : DrQ n c (j + 1) f cx cd τ τm) (hj6 : j < 6) (hk : τ 127 j = 15) (hpj : τ 128 j = (p : Int)) (haj : τm 186 (j + 1) = (a : Int))
    (gC : ∀ i k, 120 ≤ i → i ≤ 124 → k ≠ n → ¬ (i = 124 ∧ k = p) → τ' i k = τ i k) (gB : ∀ i, i ≤ j → τ' 127 i = τ 127 i ∧ τ' 128 i = τ 128 i ∧ τm' 186 (i + 1) = τm 186 (i + 1)) (g126 : τ' 126 = τ 126) (g180 : τm' 180 = τm 180)
    (gM : ∀ k i, 181 ≤ k → k ≤ 184 → i < 1000 * S + m → ¬ (k = 184 ∧ i = a) → τm' k i = τm k i)
    (v1 : τ' 120 n = 33) (v2 : τ' 124 n = ((n + 1 : Nat) : Int)) (v3 : τ' 124 p = ((n + 1 : Nat) : Int)) (w1 : τm' 181 (1000 * S + m) = 17) (w3 : τm' 184 a = ((1000 * S + m + 1 : Nat) : Int)) :
    ∃ f' cx' cd', DrP S (n + 1) (m + 1) c f' cx' cd' (Opn j τ') τ' τm' ∧ DrQ (n + 1) c j f' cx' cd' τ' τm' := by
  obtain ⟨p', a', k1, k2, k3, k4, k5⟩ := dr_top hQ (Nat.lt_succ_self j)
  have ep : p' = p := by omega
  have ea : a' = a := by omega
  subst ep; subst ea
  have fn := hP.1.2
  have cn := hQ.1
  rw [cx15 hk] at cn
  have fm := dr_mono (fun p hp => (hP.2.1 p hp).1)
  rcases k5 with ⟨q, -⟩ | ⟨q, -⟩ | ⟨-, y1, y2, y3, y4, y5, y6, y7, y10, y11, y12, y8, y9⟩ | ⟨q, -⟩ | ⟨q, -⟩
  · rw [hk] at q; exact absurd q (by decide)
  · rw [hk] at q; exact absurd q (by decide)
  · have hs1 := y8.1
    have hs2 := y8.2.1
    have hs3 := y8.2.2
    have har : f p' ≤ a' ∧ a' < f (p' + 1) := by omega
    have cdn : cd n = c := hP.2.2.1.1
    have hcx' : CX (τ' 127) j = CX (τ 127) j := CX_cg j (fun i hi => (gB i (by omega)).1)
    have hle : f p' < f n := fm n p' k3 (Nat.le_refl _)
    refine ⟨exn f n (f n + 1), exn cx n (CX (τ 127) j), exn cd n c, ?_, ?_⟩
    · refine drp_pc hP (Nat.le_refl _) k3 har gC g126 (fun k i h1 h2 h3 h4 => gM k i h1 h2 h3 (by omega)) g180 (by rw [hQ.1]; exact Nat.le_trans (CX_len _) (by omega)) (fun q hq hne hno => opn_dn (fun i hi => (gB i (by omega)).2.1) hno (fun e => hne (by omega))) (fun _ => ?_) ?_
      · refine Or.inr (Or.inr (Or.inr (Or.inr (Or.inr (Or.inr (Or.inr (Or.inl ⟨v1, ?_, CX (τ 127) j, n + 1, ?_, ⟨v2, by omega, exn_eq, ?_⟩, by omega, Or.inl ⟨rfl, ?_⟩⟩)))))))
        · rw [exn_le (Nat.le_refl _), fn]; exact w1
        · rw [exn_le (Nat.le_refl _), cn]
        · rw [exn_eq, exn_le (Nat.le_refl _), cdn]
        · rw [exn_eq, exn_le (Nat.le_refl _)]
      · have e0 : exn f n (f n + 1) p' = f p' := exn_le (by omega)
        refine Or.inr (Or.inr (Or.inr (Or.inr (Or.inr (Or.inl ⟨?_, ?_, ?_, ?_, ?_, ?_, ?_, ?_, ⟨by omega, ?_, ?_⟩, ?_, n + 1, ⟨v3, by omega, ?_, ?_⟩, by omega, ?_⟩)))))
        · rw [gC _ _ (by omega) (by omega) (by omega) (by omega)]; exact y3
        · rw [e0, gM _ _ (by omega) (by omega) (by omega) (by omega)]; exact y4
        · rw [e0, gM _ _ (by omega) (by omega) (by omega) (by omega), gC _ _ (by omega) (by omega) (by omega) (by omega)]; exact y5
        · rw [gC _ _ (by omega) (by omega) (by omega) (by omega)]; exact y6
        · rw [gC _ _ (by omega) (by omega) (by omega) (by omega)]; exact y7
        · rw [e0, gM _ _ (by omega) (by omega) (by omega) (by omega), gC _ _ (by omega) (by omega) (by omega) (by omega)]; exact y10
        · rw [gC _ _ (by omega) (by omega) (by omega) (by omega)]; exact y11
        · rw [gC _ _ (by omega) (by omega) (by omega) (by omega)]; exact y12
        · rw [exn_le (by omega), e0]; exact hs2
        · rw [exn_le (by omega), exn_le (by omega)]; exact hs3
        · rw [exn_le (by omega), exn_le (by omega)]; exact y9
        · rw [exn_eq, exn_le (by omega), y2]
        · rw [exn_eq, exn_le (by omega), k4]
        · rw [e0, exn_eq, ← y1, w3, fn]
    · obtain ⟨b1, b2, b3⟩ := drq_pc (τ' := τ') (τm' := τm') (w := 1) (x := CX (τ 127) j) hP hQ (Nat.lt_succ_self j) hpj k3 har (fun i k h1 h2 h3 => gC i k h1 (by omega) h3 (by omega)) (fun i hi => gB i (by omega)) (fun k i h1 h2 h3 h4 => gM k i h1 (by omega) h3 (by omega))
      refine ⟨by rw [exn_eq, hcx'], fun i hi => ?_, b2⟩
      obtain ⟨q, b, d1, d2, d3, d4, d5⟩ := b1 i hi
      exact ⟨q, b, d1, d2, by omega, d4, d5⟩
  · rw [hk] at q; exact absurd q (by decide)
  · rw [hk] at q; exact absurd q (by decide)
/-- the end of an if, or of an else -/
theorem close_if (hP : DrP S n m c f cx cd (Opn (j + 1) τ) τ τm) (hQ : DrQ n c (j + 1) f cx cd τ τm) (hk : τ 127 j = 9 ∨ τ 127 j = 4) (hpj : τ 128 j = (p : Int)) (haj : τm 186 (j + 1) = (a : Int))
    (gC : ∀ i k, 120 ≤ i → i ≤ 124 → ¬ (i = 124 ∧ k = p) → τ' i k = τ i k) (gB : ∀ i, i ≤ j → τ' 127 i = τ 127 i ∧ τ' 128 i = τ 128 i ∧ τm' 186 (i + 1) = τm 186 (i + 1)) (g126 : τ' 126 = τ 126) (g180 : τm' 180 = τm 180)
    (gM : ∀ k i, 181 ≤ k → k ≤ 184 → ¬ (((τ 127 j = 9 ∧ k = 184) ∨ (τ 127 j = 4 ∧ k = 182)) ∧ i = a) → τm' k i = τm k i)
    (v3 : τ' 124 p = (n : Int)) (w9 : τ 127 j = 9 → τm' 184 a = ((1000 * S + m : Nat) : Int)) (w4 : τ 127 j = 4 → τm' 182 a = ((1000 * S + m : Nat) : Int)) :
    ∃ f' cx' cd', DrP S n m c f' cx' cd' (Opn j τ') τ' τm' ∧ DrQ n c j f' cx' cd' τ' τm' := by
  obtain ⟨p', a', k1, k2, k3, k4, k5⟩ := dr_top hQ (Nat.lt_succ_self j)
  have ep : p' = p := by omega
  have ea : a' = a := by omega
  subst ep; subst ea
  have fn := hP.1.2
  have cn := hQ.1
  rw [cx9 hk] at cn
  have cdn : cd n = c := hP.2.2.1.1
  have hlt := (hP.2.1 p' k3).1
  have har : f p' ≤ a' ∧ a' < f (p' + 1) := by
    rcases k5 with ⟨q, -⟩ | ⟨-, y1, -⟩ | ⟨q, -⟩ | ⟨-, y1, -⟩ | ⟨-, y1, -, -, -, -, -, y7⟩
    · omega
    · omega
    · omega
    · omega
    · omega
  have hQ' : DrQ n c j f cx cd τ τm := by
    obtain ⟨g1, g2, g3⟩ := hQ
    exact ⟨cn, fun i hi => g2 i (by omega), fun i k hik hk => g3 i k hik (by omega)⟩
  have hno : ¬ Opn j τ p' := by
    rintro ⟨i, hi, e⟩
    have := hQ.2.2 i j hi (Nat.lt_succ_self j)
    omega
  refine ⟨f, cx, cd, ?_, ?_⟩
  · refine drp_at hP k3 (fun i q h1 h2 h3 => gC i q h1 h2 (by omega)) g126 (fun i q h1 h2 h3 => gM i q h1 h2 (by omega)) g180 (fun q hq hne hnq => opn_dn (fun i hi => (gB i (by omega)).2.1) hnq (fun e => hne (by omega))) (fun _ => ?_)
    have hC : ∀ i, 120 ≤ i → i ≤ 123 → τ' i p' = τ i p' := fun i h1 h2 => gC i p' h1 (by omega) (by omega)
    rcases k5 with ⟨q, -⟩ | ⟨y0, y1, y2, ⟨k, o, z, t1, t2, t3, t4⟩, y4, y5, y8, y9⟩ | ⟨q, -⟩ | ⟨y0, y1, y2, y3, y4⟩ | ⟨y0, y1, y2, y3, y4, y5, y6, y7⟩
    · omega
    · have hM : ∀ i, 181 ≤ i → i ≤ 183 → τm' i (f p') = τm i (f p') := fun i h1 h2 => gM i _ h1 (by omega) (by omega)
      refine Or.inr (Or.inr (Or.inr (Or.inr (Or.inl ⟨⟨k, o, z, t1, ?_, ?_, ?_⟩, ?_, ?_, y8, y9, n, ⟨v3, by omega, ?_, ?_⟩, k3, ?_⟩))))
      · rw [hC _ (by omega) (by omega)]; exact t2
      · rw [hC _ (by omega) (by omega), hM _ (by omega) (by omega)]; exact t3
      · rw [hC _ (by omega) (by omega), hM _ (by omega) (by omega)]; exact t4
      · rw [hC _ (by omega) (by omega)]; exact y4
      · rw [hM _ (by omega) (by omega)]; exact y5
      · rw [cn, y2]
      · rw [cdn, k4]
      · rw [← y1, w9 y0, fn]
    · omega
    · refine Or.inr (Or.inr (Or.inr (Or.inr (Or.inr (Or.inr (Or.inl ⟨?_, ?_, n, ⟨v3, by omega, ?_, ?_⟩, k3, ?_⟩))))))
      · rw [hC _ (by omega) (by omega)]; exact y3
      · rw [gM _ _ (by omega) (by omega) (by omega)]; exact y4
      · rw [cn, y2]
      · rw [cdn, k4]
      · rw [← y1, w4 y0, fn]
    · refine Or.inr (Or.inr (Or.inr (Or.inr (Or.inr (Or.inr (Or.inr (Or.inl ⟨?_, ?_, CX (τ 127) j, n, y2, ⟨v3, by omega, cn, ?_⟩, k3, Or.inr ⟨?_, ?_, y7⟩⟩)))))))
      · rw [hC _ (by omega) (by omega)]; exact y3
      · rw [gM _ _ (by omega) (by omega) (by omega)]; exact y4
      · rw [cdn, k4]
      · rw [gM _ _ (by omega) (by omega) (by omega)]; exact y5
      · rw [← y1, w4 y0, fn]
  · exact drq_at hP hQ' k3 hno (fun i q h1 h2 h3 => gC i q h1 (by omega) (by omega)) (fun i hi => gB i (by omega)) (fun i q h1 h2 h3 => gM i q h1 (by omega) (by omega))
/-- else, of an if or of a meet -/
theorem turn_else (hP : DrP S n m c f cx cd (Opn (j + 1) τ) τ τm) (hQ : DrQ n c (j + 1) f cx cd τ τm) (hj6 : j < 6) (hk : (τ 127 j = 9 ∧ w = 1) ∨ (τ 127 j = 15 ∧ w = 2)) (hpj : τ 128 j = (p : Int)) (haj : τm 186 (j + 1) = (a : Int))
    (gC : ∀ i k, 120 ≤ i → i ≤ 124 → k ≠ n → ¬ (i = 124 ∧ k = p) → τ' i k = τ i k) (gB : ∀ i, i < j → τ' 127 i = τ 127 i ∧ τ' 128 i = τ 128 i ∧ τm' 186 (i + 1) = τm 186 (i + 1)) (g126 : τ' 126 = τ 126) (g180 : τm' 180 = τm 180)
    (gM : ∀ k i, 181 ≤ k → k ≤ 184 → i < 1000 * S + m → ¬ (k = 184 ∧ i = a) → τm' k i = τm k i)
    (b1 : τ' 127 j = 4) (b2 : τ' 128 j = (n : Int)) (b3 : τm' 186 (j + 1) = ((1000 * S + m + w - 1 : Nat) : Int))
    (v9 : τ 127 j = 9 → τ' 120 n = 32 ∧ τm' 181 (1000 * S + m) = 15) (v15 : τ 127 j = 15 → τ' 120 n = 33 ∧ τm' 181 (1000 * S + m) = 17 ∧ τm' 181 (1000 * S + m + 1) = 15) (v3 : τ' 124 p = ((n + 1 : Nat) : Int)) (w3 : τm' 184 a = ((1000 * S + m + w : Nat) : Int)) :
    ∃ f' cx' cd', DrP S (n + 1) (m + w) c f' cx' cd' (Opn (j + 1) τ') τ' τm' ∧ DrQ (n + 1) c (j + 1) f' cx' cd' τ' τm' := by
  obtain ⟨p', a', k1, k2, k3, k4, k5⟩ := dr_top hQ (Nat.lt_succ_self j)
  have ep : p' = p := by omega
  have ea : a' = a := by omega
  subst ep; subst ea
  have fn := hP.1.2
  have cdn : cd n = c := hP.2.2.1.1
  have fm := dr_mono (fun p hp => (hP.2.1 p hp).1)
  have hlt := (hP.2.1 p' k3).1
  have hle : f p' < f n := fm n p' k3 (Nat.le_refl _)
  have hcx' : CX (τ' 127) j = CX (τ 127) j := CX_cg j (fun i hi => (gB i hi).1)
  have hcx2 : CX (τ' 127) (j + 1) = CX (τ 127) j := by rw [cx9 (Or.inr b1), hcx']
  have har : f p' ≤ a' ∧ a' < f (p' + 1) := by
    rcases k5 with ⟨q, -⟩ | ⟨-, y1, -⟩ | ⟨-, y1, -⟩ | ⟨q, -⟩ | ⟨q, -⟩
    · omega
    · omega
    · omega
    · omega
    · omega
  have hxp : cx p' = CX (τ 127) j := by
    rcases k5 with ⟨q, -⟩ | ⟨-, -, y2, -⟩ | ⟨-, -, y2, -⟩ | ⟨q, -⟩ | ⟨q, -⟩
    · omega
    · exact y2
    · exact y2
    · omega
    · omega
  have hwp : 1 ≤ w := by omega
  have e0 : exn f n (f n + w) p' = f p' := exn_le (by omega)
  refine ⟨exn f n (f n + w), exn cx n (CX (τ 127) j), exn cd n c, ?_, ?_⟩
  · refine drp_pc hP hwp k3 har gC g126 (fun k i h1 h2 h3 h4 => gM k i h1 h2 h3 (by omega)) g180 (by rw [hQ.1]; exact Nat.le_trans (CX_len _) (by omega)) (fun q hq hne hno => ?_) (fun hno => absurd ⟨j, Nat.lt_succ_self j, b2⟩ hno) ?_
    · rintro ⟨i, hi, e⟩
      by_cases hij : i = j
      · subst hij; exact hne (by omega)
      · exact hno ⟨i, hi, by rw [(gB i (by omega)).2.1]; exact e⟩
    · have hC : ∀ i, 120 ≤ i → i ≤ 123 → τ' i p' = τ i p' := fun i h1 h2 => gC i p' h1 (by omega) (by omega) (by omega)
      have hM : ∀ i, 181 ≤ i → i ≤ 183 → τm' i (f p') = τm i (f p') := fun i h1 h2 => gM i _ h1 (by omega) (by omega) (by omega)
      rcases k5 with ⟨q, -⟩ | ⟨y0, y1, y2, ⟨k, o, z, t1, t2, t3, t4⟩, y4, y5, y8, y9⟩ | ⟨y0, y1, y2, y3, y4, y5, y6, y7, y10, y11, y12, y8, y9⟩ | ⟨q, -⟩ | ⟨q, -⟩
      · omega
      · have hs1 := y8.1
        refine Or.inr (Or.inr (Or.inr (Or.inr (Or.inl ⟨⟨k, o, z, t1, ?_, ?_, ?_⟩, ?_, ?_, sc_cg y8 (by omega) (exn_all (x := []) (cx := cx)), ?_, n + 1, ⟨v3, by omega, ?_, ?_⟩, by omega, ?_⟩))))
        · rw [hC _ (by omega) (by omega)]; exact t2
        · rw [e0, hC _ (by omega) (by omega), hM _ (by omega) (by omega)]; exact t3
        · rw [e0, hC _ (by omega) (by omega), hM _ (by omega) (by omega)]; exact t4
        · rw [hC _ (by omega) (by omega)]; exact y4
        · rw [e0, hM _ (by omega) (by omega)]; exact y5
        · rw [exn_le (by omega), exn_le (by omega)]; exact y9
        · rw [exn_eq, exn_le (by omega), hxp]
        · rw [exn_eq, exn_le (by omega), k4]
        · rw [e0, exn_eq, ← y1, w3, fn]
      · have hs1 := y8.1
        refine Or.inr (Or.inr (Or.inr (Or.inr (Or.inr (Or.inl ⟨?_, ?_, ?_, ?_, ?_, ?_, ?_, ?_, sc_cg y8 (by omega) (exn_all (x := []) (cx := cx)), ?_, n + 1, ⟨v3, by omega, ?_, ?_⟩, by omega, ?_⟩)))))
        · rw [hC _ (by omega) (by omega)]; exact y3
        · rw [e0, hM _ (by omega) (by omega)]; exact y4
        · rw [e0, hM _ (by omega) (by omega), hC _ (by omega) (by omega)]; exact y5
        · rw [hC _ (by omega) (by omega)]; exact y6
        · rw [hC _ (by omega) (by omega)]; exact y7
        · rw [e0, hM _ (by omega) (by omega), hC _ (by omega) (by omega)]; exact y10
        · rw [hC _ (by omega) (by omega)]; exact y11
        · rw [hC _ (by omega) (by omega)]; exact y12
        · rw [exn_le (by omega), exn_le (by omega)]; exact y9
        · rw [exn_eq, exn_le (by omega), hxp]
        · rw [exn_eq, exn_le (by omega), k4]
        · rw [e0, exn_eq, ← y1, w3, fn]
      · omega
      · omega
  · obtain ⟨d1, d2, d3⟩ := drq_pc (τ' := τ') (τm' := τm') (w := w) (x := CX (τ 127) j) hP hQ (Nat.lt_succ_self j) hpj k3 har (fun i k h1 h2 h3 => gC i k h1 (by omega) h3 (by omega)) (fun i hi => gB i hi) (fun k i h1 h2 h3 h4 => gM k i h1 (by omega) h3 (by omega))
    refine ⟨by rw [exn_eq, hcx2], fun i hi => ?_, fun i k hik hk2 => ?_⟩
    · by_cases hij : i = j
      · subst hij
        refine ⟨n, 1000 * S + m + w - 1, b2, b3, by omega, by rw [exn_le (Nat.le_refl _)]; exact cdn, ?_⟩
        rw [b1, hcx']
        rcases hk with ⟨hk, hw⟩ | ⟨hk, hw⟩
        · obtain ⟨x1, x2⟩ := v9 hk
          have cn := hQ.1
          rw [cx9 (Or.inl hk)] at cn
          refine Or.inr (Or.inr (Or.inr (Or.inl ⟨rfl, ?_, ?_, x1, ?_⟩)))
          · rw [exn_le (Nat.le_refl _), fn]; omega
          · rw [exn_le (Nat.le_refl _), cn]
          · rw [exn_le (Nat.le_refl _), fn]; exact x2
        · obtain ⟨x1, x2, x3⟩ := v15 hk
          have cn := hQ.1
          rw [cx15 hk] at cn
          refine Or.inr (Or.inr (Or.inr (Or.inr ⟨rfl, ?_, ?_, x1, ?_, ?_, by omega, ?_⟩)))
          · rw [exn_le (Nat.le_refl _), fn]; omega
          · rw [exn_le (Nat.le_refl _), cn]
          · rw [exn_le (Nat.le_refl _), fn]; exact x2
          · rw [exn_le (Nat.le_refl _), fn]; exact x3
          · rw [exn_eq, exn_le (Nat.le_refl _), hw]
      · obtain ⟨q, b, e1, e2, e3, e4, e5⟩ := d1 i (by omega)
        exact ⟨q, b, e1, e2, by omega, e4, e5⟩
    · by_cases hkj : k = j
      · subst hkj
        have := d3 i hik
        rw [b2]; omega
      · exact d2 i k hik (by omega)
/-- the end of a code -/
theorem close_code (hP : DrP S n m c f cx cd (Opn 0 τ) τ τm) (hQ : DrQ n c 0 f cx cd τ τm) (gC : ∀ i k, 120 ≤ i → i ≤ 124 → k ≠ n → τ' i k = τ i k) (g126 : τ' 126 = τ 126) (g180 : τm' 180 = τm 180) (gM : ∀ k i, 181 ≤ k → k ≤ 184 → i < 1000 * S + m → τm' k i = τm k i)
    (v1 : τ' 120 n = 34) (w1 : τm' 181 (1000 * S + m) = 18) : ∃ f' cx' cd', DrE S (n + 1) (m + 1) (c + 1) f' cx' cd' τ' τm' := by
  obtain ⟨⟨h1, h2⟩, h3, ⟨h4, h5⟩, h6, h7⟩ := hP
  have fm := dr_mono (fun p hp => (h3 p hp).1)
  have cn : cx n = [] := hQ.1
  have hx : ∀ i, i < n + 1 → exn f n (f n + 1) i = f i ∧ cx i = cx i ∧ cd i = cd i := fun i hi => ⟨exn_le (by omega), rfl, rfl⟩
  refine ⟨exn f n (f n + 1), cx, cd, ⟨by rw [exn_le (Nat.zero_le _)]; exact h1, by rw [exn_eq, h2]; omega⟩, fun q hq => ?_, fun q r hqr hr => h5 q r hqr (by omega), fun i hi => ?_⟩
  · by_cases hqn : q = n
    · subst hqn
      refine ⟨by rw [exn_le (Nat.le_refl _), exn_eq]; omega, by omega, by rw [cn]; exact Nat.zero_le _, Or.inr (Or.inr (Or.inr (Or.inr (Or.inr (Or.inr (Or.inr (Or.inr ⟨v1, ?_, cn⟩)))))))⟩
      rw [exn_le (Nat.le_refl _), h2]; exact w1
    · have hf1 : f q < f n := fm n q (by omega) (Nat.le_refl _)
      have hcd := h5 q n (by omega) (Nat.le_refl _)
      refine ⟨by rw [exn_le (by omega), exn_le (by omega)]; exact (h3 q (by omega)).1, by omega, (h3 q (by omega)).2, ?_⟩
      refine sok_cg (h7 q (by omega) (fun ⟨i, hi, _⟩ => absurd hi (Nat.not_lt_zero _))) (by omega) (Nat.le_refl _) hx (fun i i1 i2 => gC i q i1 i2 hqn) (fun i i1 i2 => gM i _ i1 i2 (by omega)) (fun q1 q2 => ?_)
      have hf2 : f (q + 1) ≤ f n := by
        by_cases hq1 : q + 1 = n
        · rw [hq1]; exact Nat.le_refl _
        · exact Nat.le_of_lt (fm n (q + 1) (by omega) (Nat.le_refl _))
      exact ⟨gM _ _ (by decide) (by decide) (by omega), gM _ _ (by decide) (by decide) (by omega)⟩
  · obtain ⟨b, b1, b2, b3, b4, b5⟩ := h6 i (by omega)
    exact ⟨b, by rw [g126]; exact b1, by omega, b3, b4, by rw [g180, exn_le b2]; exact b5⟩
/-- the beginning of a code -/
theorem open_code (h : DrE S n m c f cx cd τ τm) (gC : ∀ i k, 120 ≤ i → i ≤ 124 → τ' i k = τ i k) (g126 : ∀ i, i < c → τ' 126 i = τ 126 i) (g180 : ∀ i, i < c → τm' 180 (8 * S + i) = τm 180 (8 * S + i)) (gM : ∀ k i, 181 ≤ k → k ≤ 184 → τm' k i = τm k i)
    (v1 : τ' 126 c = (n : Int)) (w1 : τm' 180 (8 * S + c) = ((1000 * S + m : Nat) : Int)) : ∃ f' cx' cd', DrP S n m c f' cx' cd' (Opn 0 τ') τ' τm' ∧ DrQ n c 0 f' cx' cd' τ' τm' := by
  obtain ⟨⟨h1, h2⟩, h3, h5, h6⟩ := h
  refine ⟨f, fun i => if i = n then [] else cx i, fun i => if i = n then c else cd i, ⟨⟨h1, h2⟩, fun q hq => ⟨(h3 q hq).1, ?_⟩, ⟨if_pos rfl, fun q r hqr hr => ?_⟩, fun i hi => ?_, fun q hq _ => ?_⟩, if_pos rfl, fun i hi => absurd hi (Nat.not_lt_zero _), fun i k _ hk => absurd hk (Nat.not_lt_zero _)⟩
  · simp only
    rw [if_neg (by omega)]; exact (h3 q hq).2.2.1
  · simp only
    by_cases hrn : r = n
    · rw [if_pos hrn]
      by_cases hqn : q = n
      · rw [if_pos hqn]; exact Nat.le_refl _
      · rw [if_neg hqn]
        exact Nat.le_of_lt (h3 q (by omega)).2.1
    · rw [if_neg hrn, if_neg (by omega)]; exact h5 q r hqr (by omega)
  · by_cases hic : i = c
    · subst hic
      exact ⟨n, v1, Nat.le_refl _, if_pos rfl, if_pos rfl, by rw [w1, h2]⟩
    · obtain ⟨b, b1, b2, b3, b4, b5⟩ := h6 i (by omega)
      refine ⟨b, by rw [g126 i (by omega)]; exact b1, by omega, ?_, ?_, by rw [g180 i (by omega)]; exact b5⟩
      · simp only
        rw [if_neg (by omega)]; exact b3
      · simp only
        rw [if_neg (by omega)]; exact b4
  · exact sok_cg (h3 q hq).2.2.2 hq (Nat.le_succ n) (fun i hi => ⟨rfl, if_neg (by omega), if_neg (by omega)⟩) (fun i i1 i2 => gC i q i1 i2) (fun i i1 i2 => gM i _ i1 i2) (fun _ _ => ⟨gM _ _ (by decide) (by decide), gM _ _ (by decide) (by decide)⟩)
end
