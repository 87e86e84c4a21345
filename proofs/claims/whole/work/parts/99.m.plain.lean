/-! DEEDS: what stands between two deeds, and the plain ones -/
def FrCp (τ τ' : St) : Prop := ∀ k j, ¬ (118 ≤ k ∧ k ≤ 128) → τ' k j = τ k j
def FrS (S : Nat) (τ τ' : St) : Prop := ∀ k j, ¬ (k = 170 ∧ ((11 ≤ j ∧ j ≤ 15) ∨ j = 22 ∨ j = 27)) → ¬ (k = 178 ∧ j = S) → ¬ ((k = 179 ∨ k = 180) ∧ 8 * S ≤ j ∧ j < 8 * S + 8) → ¬ ((181 ≤ k ∧ k ≤ 184) ∧ 1000 * S ≤ j ∧ j < 1000 * S + 1000) → ¬ (k = 185 ∨ k = 186) → τ' k j = τ k j
theorem FrCp_tr {τ τ1 τ2 : St} (h1 : FrCp τ τ1) (h2 : FrCp τ1 τ2) : FrCp τ τ2 := fun k j n => (h2 k j n).trans (h1 k j n)
theorem FrS_tr {S : Nat} {τ τ1 τ2 : St} (h1 : FrS S τ τ1) (h2 : FrS S τ1 τ2) : FrS S τ τ2 := fun k j a b c d e => (h2 k j a b c d e).trans (h1 k j a b c d e)
theorem FrCp_cur {τ τ' : St} (h : CurC τ τ') : FrCp τ τ' := fun k j n => h k j (by omega)
theorem FrS_cur {S : Nat} {τ τ' : St} (h : CurM τ τ') : FrS S τ τ' := fun k j a _ _ _ _ => h k j (by omega)
/-- the class puts down step n, and no more -/
def AddC (n : Nat) (k v w g T : Int) (τ τ' : St) : Prop := (∀ i j, ¬ ((120 ≤ i ∧ i ≤ 124) ∧ j = n) → ¬ (i = 119 ∧ j = 7) → τ' i j = τ i j) ∧ (τ' 120 n = k ∧ τ' 121 n = v ∧ τ' 122 n = w ∧ τ' 123 n = g ∧ τ' 124 n = T) ∧ τ' 119 7 = ((n + 1 : Nat) : Int)
def StC (n : Nat) (k v w g T : Int) (τ τ' : St) : Prop := (∀ i j, ¬ (i = 118 ∧ (j = 1 ∨ j = 2 ∨ (8 ≤ j ∧ j ≤ 14))) → ¬ ((120 ≤ i ∧ i ≤ 124) ∧ j = n) → ¬ (i = 119 ∧ j = 7) → τ' i j = τ i j) ∧ (τ' 120 n = k ∧ τ' 121 n = v ∧ τ' 122 n = w ∧ τ' 123 n = g ∧ τ' 124 n = T) ∧ τ' 119 7 = ((n + 1 : Nat) : Int)
theorem stc_mk {n : Nat} {k v w g T : Int} {τ τ1 τ2 τ3 : St} (h1 : CurC τ τ1) (h2 : AddC n k v w g T τ1 τ2) (h3 : CurC τ2 τ3) : StC n k v w g T τ τ3 := by
  obtain ⟨a1, ⟨a2, a3, a4, a5, a6⟩, a7⟩ := h2
  refine ⟨fun i j n1 n2 n3 => ((h3 i j n1).trans (a1 i j n2 n3)).trans (h1 i j n1), ⟨?_, ?_, ?_, ?_, ?_⟩, ?_⟩
  · rw [h3 _ _ (by omega)]; exact a2
  · rw [h3 _ _ (by omega)]; exact a3
  · rw [h3 _ _ (by omega)]; exact a4
  · rw [h3 _ _ (by omega)]; exact a5
  · rw [h3 _ _ (by omega)]; exact a6
  · rw [h3 _ _ (by omega)]; exact a7
theorem FrCp_add {n : Nat} {k v w g T : Int} {τ τ' : St} (h : AddC n k v w g T τ τ') : FrCp τ τ' := fun i j n => h.1 i j (by omega) (by omega)
theorem FrCp_st {n : Nat} {k v w g T : Int} {τ τ' : St} (h : StC n k v w g T τ τ') : FrCp τ τ' := fun i j n => h.1 i j (by omega) (by omega) (by omega)
theorem cadd_sp {n : Nat} {k v w : Int} {τ : St} (h : τ 119 7 = (n : Int)) (hn : n < 512) : ∃ τ', m_X5_add 119 k v w τ = some ((n : Int), τ') ∧ AddC n k v w 1 (-1) τ τ' := by
  have e : m_X5_add 119 k v w τ = some ((n : Int), up (up (up (up (up (up τ 120 n k) 121 n v) 122 n w) 123 n 1) 124 n (-1)) 119 7 ((n + 1 : Nat) : Int)) := by
    rw [m_X5_add, h, if_pos (by omega), wt_ok (by omega) (by omega), bnd_s, Int.toNat_natCast, up_cell (by decide), h, wt_ok (by omega) (by omega), bnd_s, Int.toNat_natCast, up_cell (by decide), up_cell (by decide), h, wt_ok (by omega) (by omega), bnd_s, Int.toNat_natCast, up_cell (by decide), up_cell (by decide), up_cell (by decide), h, wt_ok (by omega) (by omega), bnd_s, Int.toNat_natCast, up_cell (by decide), up_cell (by decide), up_cell (by decide), up_cell (by decide), h, wt_ok (by omega) (by omega), bnd_s, Int.toNat_natCast, up_cell (by decide), up_cell (by decide), up_cell (by decide), up_cell (by decide), up_cell (by decide), h, pt_s, bnd_s, nx1 (by omega)]
  refine ⟨_, e, fun i j n1 n2 => ?_, ⟨?_, ?_, ?_, ?_, ?_⟩, up_eq ..⟩
  · have : up (up (up (up (up (up τ 120 n k) 121 n v) 122 n w) 123 n 1) 124 n (-1)) 119 7 ((n + 1 : Nat) : Int) i j = τ i j := by
      unfold up
      rw [if_neg (by omega), if_neg (by omega), if_neg (by omega), if_neg (by omega), if_neg (by omega), if_neg (by omega)]
    exact this
  · simp (disch := decide) only [up_eq, up_cell]
  · simp (disch := decide) only [up_eq, up_cell]
  · simp (disch := decide) only [up_eq, up_cell]
  · simp (disch := decide) only [up_eq, up_cell]
  · simp (disch := decide) only [up_eq, up_cell]
/-- the model puts down step i, and no more -/
def EmM (i : Nat) (o a b d : Int) (τ τ' : St) : Prop := (∀ k j, ¬ ((181 ≤ k ∧ k ≤ 184) ∧ j = i) → ¬ (k = 170 ∧ j = 22) → τ' k j = τ k j) ∧ (τ' 181 i = o ∧ τ' 182 i = a ∧ τ' 183 i = b ∧ τ' 184 i = d) ∧ τ' 170 22 = ((i + 1 : Nat) : Int)
def StM (i : Nat) (o a b d : Int) (τ τ' : St) : Prop := (∀ k j, ¬ (k = 170 ∧ 11 ≤ j ∧ j ≤ 15) → ¬ ((181 ≤ k ∧ k ≤ 184) ∧ j = i) → ¬ (k = 170 ∧ j = 22) → τ' k j = τ k j) ∧ (τ' 181 i = o ∧ τ' 182 i = a ∧ τ' 183 i = b ∧ τ' 184 i = d) ∧ τ' 170 22 = ((i + 1 : Nat) : Int)
theorem stm_mk {i : Nat} {o a b d : Int} {τ τ1 τ2 : St} (h1 : CurM τ τ1) (h2 : EmM i o a b d τ1 τ2) : StM i o a b d τ τ2 := ⟨fun k j n1 n2 n3 => (h2.1 k j n2 n3).trans (h1 k j n1), h2.2⟩
theorem FrS_em {S i : Nat} {o a b d : Int} {τ τ' : St} (h : EmM i o a b d τ τ') (hi : 1000 * S ≤ i ∧ i < 1000 * S + 1000) : FrS S τ τ' := fun k j n1 n2 n3 n4 n5 => h.1 k j (by omega) (by omega)
theorem emit_sp {i : Nat} {o a b d : Int} {τ : St} (h : τ 170 22 = (i : Int)) (hi : i < 2000) : ∃ τ', m_X12_emit o a b d τ = some τ' ∧ EmM i o a b d τ τ' := by
  have e : m_X12_emit o a b d τ = some (up (up (up (up (up τ 181 i o) 182 i a) 183 i b) 184 i d) 170 22 ((i + 1 : Nat) : Int)) := by
    rw [m_X12_emit, h, wt_ok (by omega) (by omega), bnd_s, Int.toNat_natCast, up_cell (by decide), h, wt_ok (by omega) (by omega), bnd_s, Int.toNat_natCast, up_cell (by decide), up_cell (by decide), h, wt_ok (by omega) (by omega), bnd_s, Int.toNat_natCast, up_cell (by decide), up_cell (by decide), up_cell (by decide), h, wt_ok (by omega) (by omega), bnd_s, Int.toNat_natCast, up_cell (by decide), up_cell (by decide), up_cell (by decide), up_cell (by decide), h, pt_s, bnd_s, nx1 (by omega)]
  refine ⟨_, e, fun k j n1 n2 => ?_, ⟨?_, ?_, ?_, ?_⟩, up_eq ..⟩
  · unfold up
    rw [if_neg (by omega), if_neg (by omega), if_neg (by omega), if_neg (by omega), if_neg (by omega)]
  · simp (disch := decide) only [up_eq, up_cell]
  · simp (disch := decide) only [up_eq, up_cell]
  · simp (disch := decide) only [up_eq, up_cell]
  · simp (disch := decide) only [up_eq, up_cell]
/-- the numbers of a parse: t tokens taken, n and m steps, c codes, nb open blocks -/
def NumP (S t n m c nb : Nat) (τ τm : St) : Prop := S < 2 ∧ (τ 119 7 = (n : Int) ∧ n ≤ t) ∧ (τm 170 22 = ((1000 * S + m : Nat) : Int) ∧ m + 4 ≤ 2 * t) ∧ (τ 119 8 = (c : Int) ∧ τm 178 S = (c : Int) ∧ c < 8) ∧ (τ 118 6 = (nb : Int) ∧ nb ≤ 6 ∧ τm 170 27 = ((nb + 1 : Nat) : Int)) ∧ τm 185 0 = 0 ∧ τm 170 18 = (S : Int)
def Bks (S n m nb : Nat) (τ τm : St) : Prop := ∀ j, j < nb → ((τ 127 j = 13 ∧ τm 185 (j + 1) = 1) ∨ (τ 127 j = 9 ∧ τm 185 (j + 1) = 2) ∨ (τ 127 j = 15 ∧ τm 185 (j + 1) = 3) ∨ (τ 127 j = 4 ∧ τm 185 (j + 1) = 4)) ∧ ∃ p a : Nat, τ 128 j = (p : Int) ∧ p < n ∧ τm 186 (j + 1) = (a : Int) ∧ 1000 * S ≤ a ∧ a < 1000 * S + m
def Nms (S c1 : Nat) (τ τm : St) : Prop := ∀ i, i < c1 → ∃ l, okL l ∧ τ 125 i = nB 32 l ∧ τm 179 (8 * S + i) = nB 27 l
def IX (K : Nat → Int) (P : Nat → Nat) (D : Nat → Int) (NL : Nat → List Int) (S t n m c nb : Nat) (τ τm : St) : Prop := JT K P D NL t τ τm ∧ (τ 118 1 = 0 ∧ τ 118 7 = 1) ∧ NumP S t n m c nb τ τm ∧ Bks S n m nb τ τm ∧ Nms S (c + 1) τ τm ∧
  (τ 118 8 = 0 → ∃ f cx cd, DrP S n m c f cx cd (Opn nb τ) τ τm ∧ DrQ n c nb f cx cd τ τm)
/-- a whole draft: n steps, c codes -/
def DrE (S n m c : Nat) (f : Nat → Nat) (cx : Nat → List Bool) (cd : Nat → Nat) (τ τm : St) : Prop :=
  (f 0 = 1000 * S ∧ f n = 1000 * S + m) ∧ (∀ p, p < n → f p < f (p + 1) ∧ cd p < c ∧ (cx p).length ≤ 6 ∧ SOK τ τm n f cx cd p) ∧ (∀ p q, p ≤ q → q < n → cd p ≤ cd q) ∧
  ∀ i, i < c → ∃ b : Nat, τ 126 i = (b : Int) ∧ b < n ∧ cx b = [] ∧ cd b = i ∧ τm 180 (8 * S + i) = (f b : Int)
/-- a code has come to its end: the class has c1 codes, the model c -/
def EX (K : Nat → Int) (P : Nat → Nat) (D : Nat → Int) (NL : Nat → List Int) (S t n m c1 c : Nat) (τ τm : St) : Prop := JT K P D NL t τ τm ∧ (τ 118 1 = 0 ∧ τ 118 7 = 0 ∧ τ 118 6 = 0) ∧ (S < 2 ∧ (τ 119 7 = (n : Int) ∧ n ≤ t) ∧ (τm 170 22 = ((1000 * S + m : Nat) : Int) ∧ m ≤ 2 * t) ∧ (τ 119 8 = (c1 : Int) ∧ τm 178 S = (c : Int) ∧ c1 ≤ 8) ∧ τm 170 18 = (S : Int)) ∧ Nms S c1 τ τm ∧
  (τ 118 8 = 0 → ∃ f cx cd, DrE S n m c1 f cx cd τ τm)
/-- a deed on both sides -/
def DOut (K : Nat → Int) (P : Nat → Nat) (D : Nat → Int) (NL : Nat → List Int) (S t : Nat) (τ τm : St) (x : Int) (τ' τm' : St) : Prop := FrCp τ τ' ∧ FrS S τm τm' ∧
  ((x = 0 ∧ Fl P τ' τm') ∨ (x = 1 ∧ ∃ t', t < t' ∧ ((∃ n m c nb, IX K P D NL S t' n m c nb τ' τm') ∨ ∃ n m c, EX K P D NL S t' n m (c + 1) c τ' τm' ∧ τm' 170 27 = 0)))
section
variable {K : Nat → Int} {P : Nat → Nat} {D : Nat → Int} {NL : Nat → List Int} {S t n m c nb : Nat} {τ τm τ' τm' : St}
theorem ix_push {t' : Nat} {k v w g T o a b d : Int} (h : IX K P D NL S t n m c nb τ τm) (hj : JT K P D NL t' τ' τm') (h1 : τ' 118 1 = 0) (hC : StC n k v w g T τ τ') (hM : StM (1000 * S + m) o a b d τm τm') (ht : t + 1 ≤ t')
    (hS : τ' 118 8 = 0 → τ 118 8 = 0 ∧ ∀ f' cx' cd', f' n = 1000 * S + m → Sc (n + 2) f' cd' n → cx' (n + 1) = cx' n → cd' n = c → SOK τ' τm' (n + 2) f' cx' cd' n) : IX K P D NL S t' (n + 1) (m + 1) c nb τ' τm' := by
  obtain ⟨-, ⟨g1, g2⟩, ⟨u1, ⟨u2, u3⟩, ⟨u4, u5⟩, ⟨u6, u7, u8⟩, ⟨u9, u10, u11⟩, u12, u13⟩, hB, hN, hD⟩ := h
  obtain ⟨c1, c2, c3⟩ := hC
  obtain ⟨m1, m2, m3⟩ := hM
  refine ⟨hj, ⟨h1, ?_⟩, ⟨u1, ⟨c3, by omega⟩, ⟨m3, by omega⟩, ⟨?_, ?_, u8⟩, ⟨?_, u10, ?_⟩, ?_, ?_⟩, ?_, ?_, ?_⟩
  · rw [c1 _ _ (by omega) (by omega) (by omega)]; exact g2
  · rw [c1 _ _ (by omega) (by omega) (by omega)]; exact u6
  · rw [m1 _ _ (by omega) (by omega) (by omega)]; exact u7
  · rw [c1 _ _ (by omega) (by omega) (by omega)]; exact u9
  · rw [m1 _ _ (by omega) (by omega) (by omega)]; exact u11
  · rw [m1 _ _ (by omega) (by omega) (by omega)]; exact u12
  · rw [m1 _ _ (by omega) (by omega) (by omega)]; exact u13
  · intro j hj
    obtain ⟨b1, p, a, b2, b3, b4, b5, b6⟩ := hB j hj
    rw [c1 127 _ (by omega) (by omega) (by omega), m1 185 _ (by omega) (by omega) (by omega), c1 128 _ (by omega) (by omega) (by omega), m1 186 _ (by omega) (by omega) (by omega)]
    exact ⟨b1, p, a, b2, by omega, b4, b5, by omega⟩
  · intro i hi
    obtain ⟨l, l1, l2, l3⟩ := hN i hi
    exact ⟨l, l1, by rw [c1 125 _ (by omega) (by omega) (by omega)]; exact l2, by rw [m1 179 _ (by omega) (by omega) (by omega)]; exact l3⟩
  · intro q
    obtain ⟨q0, hs⟩ := hS q
    obtain ⟨f, cx, cd, hP, hQ⟩ := hD q0
    have hop : ∀ p, Opn nb τ p → Opn nb τ' p := fun p ⟨j, hj, e⟩ => ⟨j, hj, by rw [c1 128 _ (by omega) (by omega) (by omega)]; exact e⟩
    refine ⟨exn f n (f n + 1), exn cx n (cx n), exn cd n c, ?_, ?_⟩
    · refine drp_ext hP (Nat.le_refl _) (fun i j i1 i2 hj => c1 i j (by omega) (by omega) (by omega)) (funext fun j => c1 126 j (by omega) (by omega) (by omega)) (fun i j i1 i2 hj => m1 i j (by omega) (by omega) (by omega)) (funext fun j => m1 180 j (by omega) (by omega) (by omega)) ?_ (fun p _ hno ho => hno (hop p ho)) (fun _ => hs _ _ _ ?_ ⟨by omega, ?_, ?_⟩ ?_ ?_)
      · rw [hQ.1]
        exact Nat.le_trans (CX_len nb) u10
      · rw [exn_le (Nat.le_refl _)]; exact hP.1.2
      · rw [exn_eq, exn_le (Nat.le_refl _)]
      · rw [exn_eq, exn_le (Nat.le_refl _)]; exact hP.2.2.1.1.symm
      · rw [exn_eq, exn_le (Nat.le_refl _)]
      · rw [exn_le (Nat.le_refl _)]; exact hP.2.2.1.1
    · refine drq_ext hP hQ (fun i j i1 i2 hj => c1 i j (by omega) (by omega) (by omega)) (fun j hj => ⟨c1 _ _ (by omega) (by omega) (by omega), c1 _ _ (by omega) (by omega) (by omega), m1 _ _ (by omega) (by omega) (by omega)⟩) (fun i j i1 i2 hj => m1 i j (by omega) (by omega) (by omega)) ?_
      rw [CX_cg nb (fun i hi => c1 127 i (by omega) (by omega) (by omega))]
      exact hQ.1
/-- plain deeds: kind, the model's step, the greatest int -/
def PlT (k o z : Int) : Prop := (k = 7 ∧ o = 0 ∧ z = 9) ∨ (k = 21 ∧ o = 1 ∧ z = 95) ∨ (k = 20 ∧ o = 2 ∧ z = 95) ∨ (k = 14 ∧ o = 3 ∧ z = 3) ∨ (k = 23 ∧ o = 4 ∧ z = 3) ∨ (k = 25 ∧ o = 5 ∧ z = 7) ∨ (k = 12 ∧ o = 6 ∧ z = 7) ∨ (k = 18 ∧ o = 7 ∧ z = 7) ∨ (k = 1 ∧ o = 8 ∧ z = 7) ∨ (k = 19 ∧ o = 9 ∧ z = 7)
theorem plt_sok {k o z : Int} {N p : Nat} {f : Nat → Nat} {cx : Nat → List Bool} {cd : Nat → Nat} (h : PlT k o z) (h1 : τ 120 p = k) (h2 : τm 181 (f p) = o) (h3 : τm 182 (f p) = τ 121 p) (h4 : 0 ≤ τ 121 p) (h5 : τ 121 p ≤ z) (h6 : Sc N f cd p) (h7 : cx (p + 1) = cx p) : SOK τ τm N f cx cd p := by
  refine Or.inl ?_
  rcases h with ⟨q1, q2, q3⟩ | ⟨q1, q2, q3⟩ | ⟨q1, q2, q3⟩ | ⟨q1, q2, q3⟩ | ⟨q1, q2, q3⟩ | ⟨q1, q2, q3⟩ | ⟨q1, q2, q3⟩ | ⟨q1, q2, q3⟩ | ⟨q1, q2, q3⟩ | ⟨q1, q2, q3⟩ <;> subst q1 <;> subst q2 <;> subst q3
  · exact ⟨7, 0, 9, by decide, h1, h2, h3, h4, h5, h6, h7⟩
  · exact ⟨21, 1, 95, by decide, h1, h2, h3, h4, h5, h6, h7⟩
  · exact ⟨20, 2, 95, by decide, h1, h2, h3, h4, h5, h6, h7⟩
  · exact ⟨14, 3, 3, by decide, h1, h2, h3, h4, h5, h6, h7⟩
  · exact ⟨23, 4, 3, by decide, h1, h2, h3, h4, h5, h6, h7⟩
  · exact ⟨25, 5, 7, by decide, h1, h2, h3, h4, h5, h6, h7⟩
  · exact ⟨12, 6, 7, by decide, h1, h2, h3, h4, h5, h6, h7⟩
  · exact ⟨18, 7, 7, by decide, h1, h2, h3, h4, h5, h6, h7⟩
  · exact ⟨1, 8, 7, by decide, h1, h2, h3, h4, h5, h6, h7⟩
  · exact ⟨19, 9, 7, by decide, h1, h2, h3, h4, h5, h6, h7⟩
theorem plt_tail {k o z : Int} (h : PlT k o z) (σ : St) : (tailX (MK k) σ = ((m_X12_number z σ).bind fun r => m_X12_tellPlain_J151 (MK k) r.1 r.2).bind fun σ48 => some σ48) ∧ wr (MK k - 22) = o ∧ (0 ≤ k ∧ k ≤ 28) ∧ (k ≠ 13 ∧ k ≠ 9 ∧ k ≠ 15 ∧ k ≠ 5 ∧ k ≠ 4) ∧ 22 ≤ MK k ∧ MK k ≤ 33 := by
  rcases h with ⟨q1, q2, q3⟩ | ⟨q1, q2, q3⟩ | ⟨q1, q2, q3⟩ | ⟨q1, q2, q3⟩ | ⟨q1, q2, q3⟩ | ⟨q1, q2, q3⟩ | ⟨q1, q2, q3⟩ | ⟨q1, q2, q3⟩ | ⟨q1, q2, q3⟩ | ⟨q1, q2, q3⟩ <;> subst q1 <;> subst q2 <;> subst q3 <;> refine ⟨?_, by decide, by decide, by decide, by decide, by decide⟩
  · show tailX 22 σ = _
    simp only [tailX, m_X12_tellPlain, Int.reduceEq, Int.reduceLE, if_true, if_false]; rfl
  · show tailX 23 σ = _
    simp only [tailX, m_X12_tellPlain, Int.reduceEq, Int.reduceLE, if_true, if_false]; rfl
  · show tailX 24 σ = _
    simp only [tailX, m_X12_tellPlain, Int.reduceEq, Int.reduceLE, if_true, if_false]; rfl
  · show tailX 25 σ = _
    simp only [tailX, m_X12_tellPlain, Int.reduceEq, Int.reduceLE, if_true, if_false]; rfl
  · show tailX 26 σ = _
    simp only [tailX, m_X12_tellPlain, Int.reduceEq, Int.reduceLE, if_true, if_false]; rfl
  · show tailX 27 σ = _
    simp only [tailX, m_X12_tellPlain, Int.reduceEq, Int.reduceLE, if_true, if_false]; rfl
  · show tailX 28 σ = _
    simp only [tailX, m_X12_tellPlain, Int.reduceEq, Int.reduceLE, if_true, if_false]; rfl
  · show tailX 29 σ = _
    simp only [tailX, m_X12_tellPlain, Int.reduceEq, Int.reduceLE, if_true, if_false]; rfl
  · show tailX 30 σ = _
    simp only [tailX, m_X12_tellPlain, Int.reduceEq, Int.reduceLE, if_true, if_false]; rfl
  · show tailX 31 σ = _
    simp only [tailX, m_X12_tellPlain, Int.reduceEq, Int.reduceLE, if_true, if_false]; rfl
theorem ix_md (h : IX K P D NL S t n m c nb τ τm) : MDt nb τm := ⟨h.2.2.1.2.2.2.2.1.2.1, h.2.2.1.2.2.2.2.1.2.2⟩
theorem plain_sp {k o z : Int} (hT : TF K P D NL) (h : IX K P D NL S t n m c nb τ τm) (hp : PlT k o z) (hk : K t = k) : ∃ x τ' τm', m_X4_plainDeed z τ = some (x, τ') ∧ m_X12_tellDeed τm = some τm' ∧ DOut K P D NL S t τ τm x τ' τm' := by
  have h0 := h
  obtain ⟨hj, ⟨g1, g2⟩, ⟨u1, ⟨u2, u3⟩, ⟨u4, u5⟩, ⟨u6, u7, u8⟩, ⟨u9, u10, u11⟩, u12, u13⟩, hB, hN, hD⟩ := h
  obtain ⟨-, p2, p3, p4, p5⟩ := plt_tail hp τm
  have c11 : τ 118 11 = K t := hj.1.2.2.1.2.1
  have ht5 := hj.1.1.2
  rw [md_plain hT hj (ix_md h0) (by rw [hk]; exact p4) (by rw [hk]; exact p5)]
  rcases jnextT hj rfl (show K t ≤ 28 by omega) with ⟨g0, τ1, τ1m, a1, b1, j1, f1, e1, l1, z1⟩ | ⟨τ1, τ1m, a1, b1, fl, f1, e1⟩
  · obtain ⟨τ2, a2, s2⟩ := cadd_sp (k := K t) (v := τ1 118 13) (w := 0) (τ := τ1) (n := n) (by rw [f1 _ _ (by omega)]; exact u2) (by omega)
    have j2 : JT K P D NL (t + 1) τ2 τ1m := jt_cg j1 (fun i j q => s2.1 i j (by omega) (by omega)) (fun _ _ _ => rfl)
    have hcls : m_X4_plainDeed z τ = (m_X4_acceptNumber z τ2).bind fun (x8, σ9) => (if x8 = 0 then some ((0 : Int), σ9) else (m_X4_accept 28 σ9).bind fun (x11, σ12) => (if x11 = 0 then some ((0 : Int), σ12) else some ((1 : Int), σ12))) := by
      rw [m_X4_plainDeed, c11, a1, bnd_s]
      show (if (1 : Int) = 0 then _ else _) = _
      rw [if_neg (by decide), a2, bnd_s]
    have hmdl : (m_X12_next τm).bind (tailX (MK (K t))) = ((m_X12_number z τ1m).bind fun r => m_X12_tellPlain_J151 (MK k) r.1 r.2).bind fun σ48 => some σ48 := by
      rw [b1, bnd_s, hk]; exact (plt_tail hp τ1m).1
    rw [hcls, hmdl]
    rcases jnum hT j2 (z := z) with ⟨⟨k27, -⟩, τ3, τ3m, a3, b3, j3, f3, e3, l3, z3⟩ | ⟨v, τ3, τ3m, a3, b3, fl, f3, e3⟩
    · rw [a3, b3, bnd_s, bnd_s]
      have hv : τ1 118 13 = D (t + 1) := j1.1.2.2.1.2.2.2.1 k27
      rcases jaccT hT j3 (a := 28) (b := 4) (by decide) rfl with ⟨-, τ4, τ4m, a4, b4, j4, f4, e4, l4, z4⟩ | ⟨τ4, τ4m, a4, b4, fl, f4, e4⟩
      · have cur : CurM τm τ4m := CurM_tr (CurM_tr e1 e3) e4
        obtain ⟨τ5m, b5, s5⟩ := emit_sp (o := o) (a := D (t + 1)) (b := 0) (d := 0) (τ := τ4m) (i := 1000 * S + m) (by rw [cur _ _ (by omega)]; exact u4) (by omega)
        have sC : StC n (K t) (D (t + 1)) 0 1 (-1) τ τ4 := by rw [← hv]; exact stc_mk f1 s2 (CurC_tr f3 f4)
        have sM := stm_mk cur s5
        refine ⟨1, τ4, τ5m, ?_, ?_, FrCp_st sC, FrS_tr (FrS_cur cur) (FrS_em s5 (by omega)), Or.inr ⟨rfl, t + 3, by omega, Or.inl ⟨n + 1, m + 1, c, nb, ix_push h0 (jt_cg j4 (fun _ _ _ => rfl) (fun i j q => s5.1 i j (by omega) (by omega))) ?_ sC sM (by omega) ?_⟩⟩⟩
        · show (if (1 : Int) = 0 then _ else _) = _
          rw [if_neg (by decide), a4, bnd_s]
          show (if (1 : Int) = 0 then _ else _) = _
          rw [if_neg (by decide)]
        · show (m_X12_tellPlain_J151 (MK k) (D (t + 1)) τ3m).bind _ = _
          rw [m_X12_tellPlain_J151, b4, bnd_s, if_pos j4.1.2.2.2.2, p2, b5, bnd_s, bnd_s]
        · rw [z4, z3, s2.1 _ _ (by omega) (by omega), z1]; exact g1
        · intro q
          have q3 := l3 (by rw [← l4]; exact q)
          have q2 : τ1 118 8 = 0 := by rw [← s2.1 _ _ (by omega) (by omega)]; exact q3.1
          refine ⟨by rw [← l1]; exact q2, fun f' cx' cd' y1 y2 y3 y4 => ?_⟩
          obtain ⟨-, ⟨v1, v2, -⟩, -⟩ := sC
          obtain ⟨-, ⟨w1, w2, -⟩, -⟩ := sM
          have hd := (hT.2.2.2 (t + 1) k27).1
          exact plt_sok hp (by rw [v1, hk]) (by rw [y1, w1]) (by rw [y1, w2, v2]) (by rw [v2]; exact hd) (by rw [v2]; exact q3.2) y2 y3
      · refine ⟨0, τ4, τ4m, ?_, ?_, FrCp_tr (FrCp_tr (FrCp_cur f1) (FrCp_add s2)) (FrCp_cur (CurC_tr f3 f4)), FrS_cur (CurM_tr (CurM_tr e1 e3) e4), Or.inl ⟨rfl, fl⟩⟩
        · show (if (1 : Int) = 0 then _ else _) = _
          rw [if_neg (by decide), a4, bnd_s]
          show (if (0 : Int) = 0 then _ else _) = _
          rw [if_pos rfl]
        · obtain ⟨e, t', he, -, -, he2, -⟩ := fl
          show (m_X12_tellPlain_J151 (MK k) (D (t + 1)) τ3m).bind _ = _
          rw [m_X12_tellPlain_J151, b4, bnd_s, if_neg (by omega), bnd_s]
    · refine ⟨0, τ3, τ3m, ?_, ?_, FrCp_tr (FrCp_tr (FrCp_cur f1) (FrCp_add s2)) (FrCp_cur f3), FrS_cur (CurM_tr e1 e3), Or.inl ⟨rfl, fl⟩⟩
      · rw [a3, bnd_s]
        show (if (0 : Int) = 0 then _ else _) = _
        rw [if_pos rfl]
      · have fl0 := fl
        obtain ⟨e, t', he, -, -, he2, -⟩ := fl
        rw [b3, bnd_s]
        show (m_X12_tellPlain_J151 (MK k) v τ3m).bind _ = _
        rw [m_X12_tellPlain_J151, fmust fl0, bnd_s, if_neg (by omega), bnd_s]
  · obtain ⟨τ2m, b2, fl2, e2⟩ := ftail fl (x2 := MK (K t))
    refine ⟨0, τ1, τ2m, ?_, ?_, FrCp_cur f1, FrS_cur (CurM_tr e1 e2), Or.inl ⟨rfl, fl2⟩⟩
    · rw [m_X4_plainDeed, c11, a1, bnd_s]
      show (if (0 : Int) = 0 then _ else _) = _
      rw [if_pos rfl]
    · rw [b1, bnd_s, b2]
end
