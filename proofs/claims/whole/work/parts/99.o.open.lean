/-! DEEDS that open a block: loop, meet -/
/-- the class has opened block nb and put down its step -/
def StCo (n nb : Nat) (kd k v w g T : Int) (τ τ' : St) : Prop := (∀ i j, ¬ (i = 118 ∧ (j = 1 ∨ j = 2 ∨ j = 6 ∨ (8 ≤ j ∧ j ≤ 14))) → ¬ ((120 ≤ i ∧ i ≤ 124) ∧ j = n) → ¬ (i = 119 ∧ j = 7) → ¬ ((i = 127 ∨ i = 128) ∧ j = nb) → τ' i j = τ i j) ∧
  (τ' 120 n = k ∧ τ' 121 n = v ∧ τ' 122 n = w ∧ τ' 123 n = g ∧ τ' 124 n = T) ∧ τ' 119 7 = ((n + 1 : Nat) : Int) ∧ τ' 118 6 = ((nb + 1 : Nat) : Int) ∧ τ' 127 nb = kd ∧ τ' 128 nb = (n : Int)
/-- the model has opened a block and put down its step -/
def StMo (i nb : Nat) (s o a b : Int) (τ τ' : St) : Prop := (∀ k j, ¬ (k = 170 ∧ 11 ≤ j ∧ j ≤ 15) → ¬ ((181 ≤ k ∧ k ≤ 184) ∧ j = i) → ¬ (k = 170 ∧ (j = 22 ∨ j = 27)) → ¬ ((k = 185 ∨ k = 186) ∧ j = nb + 1) → τ' k j = τ k j) ∧
  (τ' 181 i = o ∧ τ' 182 i = a ∧ τ' 183 i = b) ∧ τ' 170 22 = ((i + 1 : Nat) : Int) ∧ τ' 170 27 = ((nb + 2 : Nat) : Int) ∧ τ' 185 (nb + 1) = s ∧ τ' 186 (nb + 1) = (i : Int)
section
variable {K : Nat → Int} {P : Nat → Nat} {D : Nat → Int} {NL : Nat → List Int} {S t n m c nb : Nat} {τ τm τ' τm' : St}
theorem drq_blk {w : Nat} {x : List Bool} {f : Nat → Nat} {cx : Nat → List Bool} {cd : Nat → Nat} {o : Nat → Prop} (hP : DrP S n m c f cx cd o τ τm) (h : DrQ n c nb f cx cd τ τm)
    (hC : ∀ i j, 120 ≤ i → i ≤ 123 → j < n → τ' i j = τ i j) (h127 : ∀ j, j < nb → τ' 127 j = τ 127 j ∧ τ' 128 j = τ 128 j ∧ τm' 186 (j + 1) = τm 186 (j + 1)) (hM : ∀ i j, 181 ≤ i → i ≤ 183 → j < 1000 * S + m → τm' i j = τm i j) :
    (∀ j, j < nb → ∃ p a : Nat, τ' 128 j = (p : Int) ∧ τm' 186 (j + 1) = (a : Int) ∧ p < n ∧ exn cd n c p = c ∧ OP τ' τm' (n + 1 + 1) (exn f n (f n + w)) (exn cx n x) (exn cd n c) (τ' 127 j) a (CX (τ' 127) j) p) ∧ ∀ i j, i < j → j < nb → τ' 128 i < τ' 128 j := by
  obtain ⟨⟨h1, h2⟩, h3, -⟩ := hP
  obtain ⟨g1, g2, g3⟩ := h
  have fm := dr_mono (fun p hp => (h3 p hp).1)
  refine ⟨fun j hj => ?_, fun i j hij hj => ?_⟩
  · obtain ⟨p, a, k1, k2, k3, k4, k5⟩ := g2 j hj
    obtain ⟨e1, e2, e3⟩ := h127 j hj
    have hf1 : f p < f n := fm n p (by omega) (Nat.le_refl _)
    refine ⟨p, a, by rw [e2]; exact k1, by rw [e3]; exact k2, k3, by rw [exn_le (by omega)]; exact k4, ?_⟩
    rw [e1, CX_cg j (fun i hi => (h127 i (by omega)).1)]
    refine op_cg k5 (by omega) (by omega) exn_all (fun i i1 i2 => hC i p i1 i2 (by omega)) (fun i i1 i2 => hM i _ i1 i2 (by omega)) (fun q1 q2 => ?_)
    have hf2 : f (p + 1) ≤ f n := by
      by_cases hp1 : p + 1 = n
      · rw [hp1]; exact Nat.le_refl _
      · exact Nat.le_of_lt (fm n (p + 1) (by omega) (Nat.le_refl _))
    exact hM _ _ (by decide) (by decide) (by omega)
  · rw [(h127 i (by omega)).2.1, (h127 j hj).2.1]; exact g3 i j hij hj
theorem ix_open {t' : Nat} {kd k v w g T s o a b : Int} (h : IX K P D NL S t n m c nb τ τm) (hj : JT K P D NL t' τ' τm') (h1 : τ' 118 1 = 0) (h6 : nb < 6) (hC : StCo n nb kd k v w g T τ τ') (hM : StMo (1000 * S + m) nb s o a b τm τm') (ht : t + 1 ≤ t')
    (hks : (kd = 13 ∧ s = 1) ∨ (kd = 9 ∧ s = 2) ∨ (kd = 15 ∧ s = 3))
    (hS : τ' 118 8 = 0 → τ 118 8 = 0 ∧ ∀ f' cx' cd', f' n = 1000 * S + m → Sc (n + 2) f' cd' n → cx' (n + 1) = CX (τ' 127) (nb + 1) → cx' n = CX (τ' 127) nb → OP τ' τm' (n + 2) f' cx' cd' kd (1000 * S + m) (CX (τ' 127) nb) n) : IX K P D NL S t' (n + 1) (m + 1) c (nb + 1) τ' τm' := by
  obtain ⟨-, ⟨g1, g2⟩, ⟨u1, ⟨u2, u3⟩, ⟨u4, u5⟩, ⟨u6, u7, u8⟩, ⟨u9, u10, u11⟩, u12, u13⟩, hB, hN, hD⟩ := h
  obtain ⟨c1, c2, c3, c4, c5, c6⟩ := hC
  obtain ⟨m1, m2, m3, m4, m5, m6⟩ := hM
  have o127 : ∀ j, j < nb → τ' 127 j = τ 127 j ∧ τ' 128 j = τ 128 j ∧ τm' 186 (j + 1) = τm 186 (j + 1) := fun j hj => ⟨c1 _ _ (by omega) (by omega) (by omega) (by omega), c1 _ _ (by omega) (by omega) (by omega) (by omega), m1 _ _ (by omega) (by omega) (by omega) (by omega)⟩
  refine ⟨hj, ⟨h1, ?_⟩, ⟨u1, ⟨c3, by omega⟩, ⟨m3, by omega⟩, ⟨?_, ?_, u8⟩, ⟨c4, by omega, m4⟩, ?_, ?_⟩, ?_, ?_, ?_⟩
  · rw [c1 _ _ (by omega) (by omega) (by omega) (by omega)]; exact g2
  · rw [c1 _ _ (by omega) (by omega) (by omega) (by omega)]; exact u6
  · rw [m1 _ _ (by omega) (by omega) (by omega) (by omega)]; exact u7
  · rw [m1 _ _ (by omega) (by omega) (by omega) (by omega)]; exact u12
  · rw [m1 _ _ (by omega) (by omega) (by omega) (by omega)]; exact u13
  · intro j hj
    by_cases hjn : j = nb
    · subst hjn
      rw [c5, c6, m5, m6]
      exact ⟨by omega, n, 1000 * S + m, rfl, by omega, rfl, by omega, by omega⟩
    · obtain ⟨b1, p, a, b2, b3, b4, b5, b6⟩ := hB j (by omega)
      obtain ⟨e1, e2, e3⟩ := o127 j (by omega)
      rw [e1, e2, e3, m1 185 _ (by omega) (by omega) (by omega) (by omega)]
      exact ⟨b1, p, a, b2, by omega, b4, b5, by omega⟩
  · intro i hi
    obtain ⟨l, l1, l2, l3⟩ := hN i hi
    exact ⟨l, l1, by rw [c1 125 _ (by omega) (by omega) (by omega) (by omega)]; exact l2, by rw [m1 179 _ (by omega) (by omega) (by omega) (by omega)]; exact l3⟩
  · intro q
    obtain ⟨q0, hs⟩ := hS q
    obtain ⟨f, cx, cd, hP, hQ⟩ := hD q0
    have hop : ∀ p, Opn nb τ p → Opn (nb + 1) τ' p := fun p ⟨j, hj, e⟩ => ⟨j, by omega, by rw [(o127 j hj).2.1]; exact e⟩
    have hC' : ∀ i j, 120 ≤ i → i ≤ 124 → j < n → τ' i j = τ i j := fun i j i1 i2 hj => c1 i j (by omega) (by omega) (by omega) (by omega)
    have hM' : ∀ i j, 181 ≤ i → i ≤ 184 → j < 1000 * S + m → τm' i j = τm i j := fun i j i1 i2 hj => m1 i j (by omega) (by omega) (by omega) (by omega)
    refine ⟨exn f n (f n + 1), exn cx n (CX (τ' 127) (nb + 1)), exn cd n c, ?_, exn_eq, ?_, ?_⟩
    · refine drp_ext hP (Nat.le_refl _) hC' (funext fun j => c1 126 j (by omega) (by omega) (by omega) (by omega)) hM' (funext fun j => m1 180 j (by omega) (by omega) (by omega) (by omega)) ?_ (fun p _ hno ho => hno (hop p ho)) (fun hno => absurd ⟨nb, by omega, c6⟩ hno)
      rw [hQ.1]
      exact Nat.le_trans (CX_len nb) u10
    · intro j hj
      obtain ⟨b1, -⟩ := drq_blk (w := 1) (x := CX (τ' 127) (nb + 1)) hP hQ (fun i j i1 i2 hj => hC' i j i1 (by omega) hj) o127 (fun i j i1 i2 hj => hM' i j i1 (by omega) hj)
      by_cases hjn : j = nb
      · subst hjn
        refine ⟨n, 1000 * S + m, c6, m6, by omega, by rw [exn_le (Nat.le_refl _)]; exact hP.2.2.1.1, ?_⟩
        rw [c5]
        refine hs _ _ _ ?_ ⟨by omega, ?_, ?_⟩ exn_eq ?_
        · rw [exn_le (Nat.le_refl _)]; exact hP.1.2
        · rw [exn_eq, exn_le (Nat.le_refl _)]
        · rw [exn_eq, exn_le (Nat.le_refl _)]; exact hP.2.2.1.1.symm
        · rw [exn_le (Nat.le_refl _), hQ.1, CX_cg j (fun i hi => (o127 i hi).1)]
      · obtain ⟨p, a, d1, d2, d3, d4, d5⟩ := b1 j (by omega)
        exact ⟨p, a, d1, d2, by omega, d4, d5⟩
    · intro i j hij hj
      obtain ⟨b1, b2⟩ := drq_blk (w := 1) (x := CX (τ' 127) (nb + 1)) hP hQ (fun i j i1 i2 hj => hC' i j i1 (by omega) hj) o127 (fun i j i1 i2 hj => hM' i j i1 (by omega) hj)
      by_cases hjn : j = nb
      · subst hjn
        obtain ⟨p, a, d1, -, d3, -⟩ := b1 i hij
        rw [c6, d1]; omega
      · exact b2 i j hij (by omega)
/-- the class opens a block -/
def Opd (n nb : Nat) (kd : Int) (τ τ' : St) : Prop := (∀ i j, ¬ (i = 118 ∧ j = 6) → ¬ ((i = 127 ∨ i = 128) ∧ j = nb) → τ' i j = τ i j) ∧ τ' 118 6 = ((nb + 1 : Nat) : Int) ∧ τ' 127 nb = kd ∧ τ' 128 nb = (n : Int)
theorem copen {kd : Int} (h6 : τ 118 6 = (nb : Int)) (hnb : nb < 6) (h7 : τ 119 7 = (n : Int)) : ∃ τ', m_X4_open kd τ = (m_X4_accept kd τ').bind (fun r => some (r.1, r.2)) ∧ Opd n nb kd τ τ' := by
  have e : m_X4_open kd τ = (m_X4_accept kd (up (up (up τ 127 nb kd) 128 nb (n : Int)) 118 6 ((nb + 1 : Nat) : Int))).bind (fun r => some (r.1, r.2)) := by
    rw [m_X4_open, h6, if_neg (by omega), if_pos (by omega), wt_ok (by omega) (by omega), bnd_s, Int.toNat_natCast, up_cell (k' := 118) (by decide), h6, up_cell (k' := 119) (by decide), h7, wt_ok (by omega) (by omega), bnd_s, Int.toNat_natCast, up_cell (k' := 118) (by decide), up_cell (k' := 118) (by decide), h6, pt_s, bnd_s, nx1 (by omega)]
  refine ⟨_, e, fun i j n1 n2 => ?_, up_eq .., ?_, ?_⟩
  · unfold up
    rw [if_neg (by omega), if_neg (by omega), if_neg (by omega)]
  · simp (disch := decide) only [up_eq, up_cell]
  · simp (disch := decide) only [up_eq, up_cell]
theorem copen6 {kd : Int} (h6 : τ 118 6 = 6) : m_X4_open kd τ = (m_X4_fail 2 τ).bind (fun r => some (r.1, r.2)) := by
  rw [m_X4_open, h6, if_neg (by decide), if_neg (by decide)]
theorem opens_sp {i : Nat} {s o a b : Int} (h12 : τm 170 12 = 0) (h27 : τm 170 27 = ((nb + 1 : Nat) : Int)) (hnb : nb < 6) (h22 : τm 170 22 = (i : Int)) (hi : i < 2000) : ∃ τm', m_X12_opens s o a b τm = some τm' ∧ StMo i nb s o a b τm τm' ∧ ∀ k j, (173 ≤ k ∧ k ≤ 176) ∨ (k = 170 ∧ 11 ≤ j ∧ j ≤ 15) → τm' k j = τm k j := by
  obtain ⟨τ1, h1⟩ : ∃ τ1, τ1 = up (up (up τm 185 (nb + 1) s) 186 (nb + 1) (i : Int)) 170 27 ((nb + 1 + 1 : Nat) : Int) := ⟨_, rfl⟩
  have e22 : τ1 170 22 = (i : Int) := by rw [h1, up_slot (by decide), up_cell (by decide), up_cell (by decide)]; exact h22
  obtain ⟨τ2, o2, s2, ⟨v1, v2, v3, v4⟩, s3⟩ := emit_sp (o := o) (a := a) (b := b) (d := 0) e22 hi
  have e : m_X12_opens s o a b τm = some τ2 := by
    rw [m_X12_opens, h12, if_pos (Int.le_refl _), h27, wt_ok (by omega) (by omega), bnd_s, Int.toNat_natCast, up_cell (k' := 170) (by decide), h27, up_cell (k' := 170) (by decide), h22, wt_ok (by omega) (by omega), bnd_s, Int.toNat_natCast, up_cell (k' := 170) (by decide), up_cell (k' := 170) (by decide), h27, pt_s, bnd_s, nx1 (by omega), ← h1, o2, bnd_s]
  have base : ∀ k j, ¬ ((k = 185 ∨ k = 186) ∧ j = nb + 1) → ¬ (k = 170 ∧ j = 27) → τ1 k j = τm k j := fun k j n1 n2 => by
    rw [h1]
    unfold up
    rw [if_neg (by omega), if_neg (by omega), if_neg (by omega)]
  refine ⟨τ2, e, ⟨fun k j n1 n2 n3 n4 => (s2 k j (by omega) (by omega)).trans (base k j (by omega) (by omega)), ⟨v1, v2, v3⟩, s3, ?_, ?_, ?_⟩, fun k j q => (s2 k j (by omega) (by omega)).trans (base k j (by omega) (by omega))⟩
  · rw [s2 _ _ (by omega) (by omega), h1, up_eq]
  · rw [s2 _ _ (by omega) (by omega), h1, up_cell (by decide), up_cell (by decide), up_eq]
  · rw [s2 _ _ (by omega) (by omega), h1, up_cell (by decide), up_eq]
theorem stmo_mk {i : Nat} {s o a b : Int} {τ1 : St} (h1 : CurM τm τ1) (h2 : StMo i nb s o a b τ1 τm') : StMo i nb s o a b τm τm' := ⟨fun k j n1 n2 n3 n4 => (h2.1 k j n1 n2 n3 n4).trans (h1 k j n1), h2.2⟩
theorem FrS_mo {i : Nat} {s o a b : Int} (h : StMo i nb s o a b τm τm') (hi : 1000 * S ≤ i ∧ i < 1000 * S + 1000) : FrS S τm τm' := fun k j n1 n2 n3 n4 n5 => h.1 k j (by omega) (by omega) (by omega) (by omega)
theorem FrCp_co {kd k v w g T : Int} (h : StCo n nb kd k v w g T τ τ') : FrCp τ τ' := fun i j n => h.1 i j (by omega) (by omega) (by omega) (by omega)
theorem FrCp_od {kd : Int} (h : Opd n nb kd τ τ') : FrCp τ τ' := fun i j n => h.1 i j (by omega) (by omega)
/-- open, take tokens, put down the step, take tokens -/
theorem stco_mk {kd k v w g T : Int} {τ1 τ2 τ3 τ4 : St} (h1 : Opd n nb kd τ τ1) (h2 : CurC τ1 τ2) (h3 : AddC n k v w g T τ2 τ3) (h4 : CurC τ3 τ4) : StCo n nb kd k v w g T τ τ4 := by
  obtain ⟨a1, a2, a3, a4⟩ := h1
  obtain ⟨b1, ⟨b2, b3, b4, b5, b6⟩, b7⟩ := h3
  refine ⟨fun i j n1 n2 n3 n4 => (((h4 i j (by omega)).trans (b1 i j n2 n3)).trans (h2 i j (by omega))).trans (a1 i j (by omega) n4), ⟨?_, ?_, ?_, ?_, ?_⟩, ?_, ?_, ?_, ?_⟩
  · rw [h4 _ _ (by omega)]; exact b2
  · rw [h4 _ _ (by omega)]; exact b3
  · rw [h4 _ _ (by omega)]; exact b4
  · rw [h4 _ _ (by omega)]; exact b5
  · rw [h4 _ _ (by omega)]; exact b6
  · rw [h4 _ _ (by omega)]; exact b7
  · rw [h4 _ _ (by omega), b1 _ _ (by omega) (by omega), h2 _ _ (by omega)]; exact a2
  · rw [h4 _ _ (by omega), b1 _ _ (by omega) (by omega), h2 _ _ (by omega)]; exact a3
  · rw [h4 _ _ (by omega), b1 _ _ (by omega) (by omega), h2 _ _ (by omega)]; exact a4
/-- a seventh block -/
theorem six_sp {kd : Int} (hT : TF K P D NL) (h : IX K P D NL S t n m c 6 τ τm) (hk : K t = 13 ∨ K t = 9 ∨ K t = 15) : ∃ τ' τm', m_X4_open kd τ = some (0, τ') ∧ m_X12_tellDeed τm = some τm' ∧ DOut K P D NL S t τ τm 0 τ' τm' := by
  obtain ⟨τ', τm', a1, b1, fl, f1, e1⟩ := jfail h.1.1 (e := 2) (Or.inr rfl)
  have h6 : τ 118 6 = 6 := h.2.2.1.2.2.2.2.1.1
  have fl0 := fl
  obtain ⟨e, t', he, -, -, he2, -⟩ := fl
  refine ⟨τ', τm', ?_, md_blk6 hT h.1 (ix_md h) hk b1 (by omega), FrCp_cur f1, FrS_cur e1, Or.inl ⟨rfl, fl0⟩⟩
  rw [copen6 h6, a1, bnd_s]
theorem loopH_sp (hT : TF K P D NL) (h : IX K P D NL S t n m c nb τ τm) (hk : K t = 13) : ∃ x τ' τm', m_X4_loopHead τ = some (x, τ') ∧ m_X12_tellDeed τm = some τm' ∧ DOut K P D NL S t τ τm x τ' τm' := by
  have h0 := h
  obtain ⟨hj, ⟨g1, g2⟩, ⟨u1, ⟨u2, u3⟩, ⟨u4, u5⟩, ⟨u6, u7, u8⟩, ⟨u9, u10, u11⟩, u12, u13⟩, hB, hN, hD⟩ := h
  have ht5 := hj.1.1.2
  by_cases hn6 : nb = 6
  · subst hn6
    obtain ⟨τ', τm', a1, b1, hO⟩ := six_sp (kd := 13) hT h0 (Or.inl hk)
    refine ⟨0, τ', τm', ?_, b1, hO⟩
    rw [m_X4_loopHead, a1, bnd_s]
    show (if (0 : Int) = 0 then _ else _) = _
    rw [if_pos rfl]
  · have hmk : MK (K t) = 34 := by rw [hk]; rfl
    obtain ⟨τ1, o1, s1⟩ := copen (kd := 13) u9 (by omega) u2
    have j1 : JT K P D NL t τ1 τm := jt_cg hj (fun i j q => s1.1 i j (by omega) (by omega)) (fun _ _ _ => rfl)
    rw [md_blk hT hj (ix_md h0) (Or.inl hk) (by omega), hmk, m_X4_loopHead, o1]
    rcases jnextT j1 hk (by decide) with ⟨g0, τ2, τ2m, a2, b2, j2, f2, e2, l2, z2⟩ | ⟨τ2, τ2m, a2, b2, fl, f2, e2⟩
    · obtain ⟨τ3, a3, s3⟩ := cadd_sp (k := 13) (v := τ2 118 13) (w := 0) (τ := τ2) (n := n) (by rw [f2 _ _ (by omega), s1.1 _ _ (by omega) (by omega)]; exact u2) (by omega)
      have j3 : JT K P D NL (t + 1) τ3 τ2m := jt_cg j2 (fun i j q => s3.1 i j (by omega) (by omega)) (fun _ _ _ => rfl)
      have hcls : ((m_X4_accept 13 τ1).bind (fun r => some (r.1, r.2))).bind (fun (x1, σ2) => (if x1 = 0 then some ((0 : Int), σ2) else (m_X5_add 119 13 (σ2 118 13) 0 σ2).bind fun (x5, σ6) => (m_X4_acceptNumber 95 σ6).bind fun (x7, σ8) => some (x7, σ8))) = (m_X4_acceptNumber 95 τ3).bind fun (x7, σ8) => some (x7, σ8) := by
        rw [a2, bnd_s, bnd_s]
        show (if (1 : Int) = 0 then _ else _) = _
        rw [if_neg (by decide), a3, bnd_s]
      have hmdl : (m_X12_next τm).bind (tailX 34) = (m_X12_number 95 τ2m).bind fun (x56, σ57) => (m_X12_opens 1 12 x56 0 σ57).bind fun σ58 => some σ58 := by
        rw [b2, bnd_s, tailX, if_pos rfl]
      rw [hcls, hmdl]
      rcases jnum hT j3 (z := 95) with ⟨⟨k27, -⟩, τ4, τ4m, a4, b4, j4, f4, e4, l4, z4⟩ | ⟨v, τ4, τ4m, a4, b4, fl, f4, e4⟩
      · have cur : CurM τm τ4m := CurM_tr e2 e4
        have hv : τ2 118 13 = D (t + 1) := j2.1.2.2.1.2.2.2.1 k27
        obtain ⟨τ5m, b5, s5, q5⟩ := opens_sp (s := 1) (o := 12) (a := D (t + 1)) (b := 0) (τm := τ4m) (nb := nb) (i := 1000 * S + m) j4.1.2.2.2.2 (by rw [cur _ _ (by omega)]; exact u11) (by omega) (by rw [cur _ _ (by omega)]; exact u4) (by omega)
        have sC : StCo n nb 13 13 (D (t + 1)) 0 1 (-1) τ τ4 := by rw [← hv]; exact stco_mk s1 f2 s3 f4
        have sM := stmo_mk cur s5
        refine ⟨1, τ4, τ5m, ?_, ?_, FrCp_co sC, FrS_mo sM (by omega), Or.inr ⟨rfl, t + 2, by omega, Or.inl ⟨n + 1, m + 1, c, nb + 1, ix_open h0 (jt_cg j4 (fun _ _ _ => rfl) q5) ?_ (by omega) sC sM (by omega) (Or.inl ⟨rfl, rfl⟩) ?_⟩⟩⟩
        · rw [a4, bnd_s]
        · rw [b4, bnd_s]
          show ((m_X12_opens 1 12 (D (t + 1)) 0 τ4m).bind fun σ58 => some σ58) = _
          rw [b5, bnd_s]
        · rw [z4, s3.1 _ _ (by omega) (by omega), z2, s1.1 _ _ (by omega) (by omega)]; exact g1
        · intro q
          have q3 := l4 q
          refine ⟨by rw [← s1.1 118 8 (by omega) (by omega), ← l2, ← s3.1 118 8 (by omega) (by omega)]; exact q3.1, fun f' cx' cd' y1 y2 y3 y4 => ?_⟩
          obtain ⟨-, ⟨v1, v2, -⟩, -, -, v6, -⟩ := sC
          obtain ⟨-, ⟨w1, w2, -⟩, -⟩ := sM
          have hd := (hT.2.2.2 (t + 1) k27).1
          refine Or.inl ⟨rfl, y1.symm, y4, v1, by rw [y1, w1], by rw [y1, w2, v2], by rw [v2]; exact hd, by rw [v2]; exact q3.2, y2, ?_⟩
          rw [y3, y4]
          show (if τ4 127 nb = 13 then _ else _) = _
          rw [v6, if_pos rfl]
      · refine ⟨0, τ4, τ4m, ?_, ?_, FrCp_tr (FrCp_tr (FrCp_tr (FrCp_od s1) (FrCp_cur f2)) (FrCp_add s3)) (FrCp_cur f4), FrS_cur (CurM_tr e2 e4), Or.inl ⟨rfl, fl⟩⟩
        · rw [a4, bnd_s]
        · rw [b4, bnd_s]
          show ((m_X12_opens 1 12 v 0 τ4m).bind fun σ58 => some σ58) = _
          rw [fopens fl, bnd_s]
    · obtain ⟨τ3m, b3, fl2, e3⟩ := ftail fl (x2 := 34)
      refine ⟨0, τ2, τ3m, ?_, ?_, FrCp_tr (FrCp_od s1) (FrCp_cur f2), FrS_cur (CurM_tr e2 e3), Or.inl ⟨rfl, fl2⟩⟩
      · rw [a2, bnd_s, bnd_s]
        show (if (0 : Int) = 0 then _ else _) = _
        rw [if_pos rfl]
      · rw [b2, bnd_s, b3]
theorem meet_rd (hT : TF K P D NL) (h : IX K P D NL S t n m c nb τ τm) (hk : K t = 15) : ∃ x τ' τm', m_X4_meetHead τ = some (x, τ') ∧ m_X12_tellDeed τm = some τm' ∧ DOut K P D NL S t τ τm x τ' τm' := by
  have h0 := h
  obtain ⟨hj, ⟨g1, g2⟩, ⟨u1, ⟨u2, u3⟩, ⟨u4, u5⟩, ⟨u6, u7, u8⟩, ⟨u9, u10, u11⟩, u12, u13⟩, hB, hN, hD⟩ := h
  have ht5 := hj.1.1.2
  by_cases hn6 : nb = 6
  · subst hn6
    obtain ⟨τ', τm', a1, b1, hO⟩ := six_sp (kd := 15) hT h0 (Or.inr (Or.inr hk))
    refine ⟨0, τ', τm', ?_, b1, hO⟩
    rw [m_X4_meetHead, a1, bnd_s]
    show (if (0 : Int) = 0 then _ else _) = _
    rw [if_pos rfl]
  · have hmk : MK (K t) = 37 := by rw [hk]; rfl
    obtain ⟨τ1, o1, s1⟩ := copen (kd := 15) u9 (by omega) u2
    have j1 : JT K P D NL t τ1 τm := jt_cg hj (fun i j q => s1.1 i j (by omega) (by omega)) (fun _ _ _ => rfl)
    rw [md_blk hT hj (ix_md h0) (Or.inr (Or.inr hk)) (by omega), hmk, m_X4_meetHead, o1]
    rcases jnextT j1 hk (by decide) with ⟨g0, τ2, τ2m, a2, b2, j2, f2, e2, l2, z2⟩ | ⟨τ2, τ2m, a2, b2, fl, f2, e2⟩
    · rw [a2, bnd_s, bnd_s]
      have hmdl : (m_X12_next τm).bind (tailX 37) = (m_X12_number 7 τ2m).bind fun (x49, σ50) => (m_X12_must 38 σ50).bind fun σ51 => (m_X12_number 95 σ51).bind fun (x52, σ53) => (m_X12_opens 3 16 x49 x52 σ53).bind fun σ54 => some σ54 := by
        rw [b2, bnd_s, tailX, if_neg (by decide), if_neg (by decide), if_pos rfl]
      rw [hmdl]
      rcases jnum hT j2 (z := 7) with ⟨⟨k27, -⟩, τ3, τ3m, a3, b3, j3, f3, e3, l3, z3⟩ | ⟨v, τ3, τ3m, a3, b3, fl, f3, e3⟩
      · have hv : τ2 118 13 = D (t + 1) := j2.1.2.2.1.2.2.2.1 k27
        rcases jaccT hT j3 (a := 6) (b := 38) (by decide) rfl with ⟨-, τ4, τ4m, a4, b4, j4, f4, e4, l4, z4⟩ | ⟨τ4, τ4m, a4, b4, fl, f4, e4⟩
        · have f234 : CurC τ1 τ4 := CurC_tr (CurC_tr f2 f3) f4
          obtain ⟨τ5, a5, s5⟩ := cadd_sp (k := 15) (v := τ2 118 13) (w := τ4 118 13) (τ := τ4) (n := n) (by rw [f234 _ _ (by omega), s1.1 _ _ (by omega) (by omega)]; exact u2) (by omega)
          have j5 : JT K P D NL (t + 3) τ5 τ4m := jt_cg j4 (fun i j q => s5.1 i j (by omega) (by omega)) (fun _ _ _ => rfl)
          have hcls : (match ((1 : Int), τ2) with | (x1, σ2) => (if x1 = 0 then some ((0 : Int), σ2) else (m_X4_acceptNumber 7 σ2).bind fun (x5, σ6) => (if x5 = 0 then some ((0 : Int), σ6) else (m_X4_accept 6 σ6).bind fun (x8, σ9) => (if x8 = 0 then some ((0 : Int), σ9) else (m_X5_add 119 15 (σ2 118 13) (σ9 118 13) σ9).bind fun (x12, σ13) => (m_X4_acceptNumber 95 σ13).bind fun (x14, σ15) => some (x14, σ15))))) = (m_X4_acceptNumber 95 τ5).bind fun (x14, σ15) => some (x14, σ15) := by
            show (if (1 : Int) = 0 then _ else _) = _
            rw [if_neg (by decide), a3, bnd_s]
            show (if (1 : Int) = 0 then _ else _) = _
            rw [if_neg (by decide), a4, bnd_s]
            show (if (1 : Int) = 0 then _ else _) = _
            rw [if_neg (by decide), a5, bnd_s]
          have hm2 : ((m_X12_number 7 τ2m).bind fun (x49, σ50) => (m_X12_must 38 σ50).bind fun σ51 => (m_X12_number 95 σ51).bind fun (x52, σ53) => (m_X12_opens 3 16 x49 x52 σ53).bind fun σ54 => some σ54) = (m_X12_number 95 τ4m).bind fun (x52, σ53) => (m_X12_opens 3 16 (D (t + 1)) x52 σ53).bind fun σ54 => some σ54 := by
            rw [b3, bnd_s]
            show ((m_X12_must 38 τ3m).bind _) = _
            rw [b4, bnd_s]
          rw [hm2]
          rcases jnum hT j5 (z := 95) with ⟨⟨k27', -⟩, τ6, τ6m, a6, b6, j6, f6, e6, l6, z6⟩ | ⟨v, τ6, τ6m, a6, b6, fl, f6, e6⟩
          · have cur : CurM τm τ6m := CurM_tr (CurM_tr (CurM_tr e2 e3) e4) e6
            have hv' : τ4 118 13 = D (t + 3) := j4.1.2.2.1.2.2.2.1 k27'
            obtain ⟨τ7m, b7, s7, q7⟩ := opens_sp (s := 3) (o := 16) (a := D (t + 1)) (b := D (t + 3)) (τm := τ6m) (nb := nb) (i := 1000 * S + m) j6.1.2.2.2.2 (by rw [cur _ _ (by omega)]; exact u11) (by omega) (by rw [cur _ _ (by omega)]; exact u4) (by omega)
            have sC : StCo n nb 15 15 (D (t + 1)) (D (t + 3)) 1 (-1) τ τ6 := by rw [← hv, ← hv']; exact stco_mk s1 f234 s5 f6
            have sM := stmo_mk cur s7
            refine ⟨1, τ6, τ7m, ?_, ?_, FrCp_co sC, FrS_mo sM (by omega), Or.inr ⟨rfl, t + 4, by omega, Or.inl ⟨n + 1, m + 1, c, nb + 1, ix_open h0 (jt_cg j6 (fun _ _ _ => rfl) q7) ?_ (by omega) sC sM (by omega) (Or.inr (Or.inr ⟨rfl, rfl⟩)) ?_⟩⟩⟩
            · refine Eq.trans hcls ?_
              rw [a6, bnd_s]
            · rw [b6, bnd_s]
              show ((m_X12_opens 3 16 (D (t + 1)) (D (t + 3)) τ6m).bind fun σ54 => some σ54) = _
              rw [b7, bnd_s]
            · rw [z6, s5.1 _ _ (by omega) (by omega), z4, z3, z2, s1.1 _ _ (by omega) (by omega)]; exact g1
            · intro q
              have q3 := l6 q
              have q4 := l3 (by rw [← l4, ← s5.1 118 8 (by omega) (by omega)]; exact q3.1)
              refine ⟨by rw [← s1.1 118 8 (by omega) (by omega), ← l2]; exact q4.1, fun f' cx' cd' y1 y2 y3 y4 => ?_⟩
              obtain ⟨-, ⟨v1, v2, v3, -⟩, -, -, v6, -⟩ := sC
              obtain ⟨-, ⟨w1, w2, w3⟩, -⟩ := sM
              have hd := (hT.2.2.2 (t + 1) k27).1
              have hd' := (hT.2.2.2 (t + 3) k27').1
              refine Or.inr (Or.inr (Or.inl ⟨rfl, y1.symm, y4, v1, by rw [y1, w1], by rw [y1, w2, v2], by rw [v2]; exact hd, by rw [v2]; exact q4.2, by rw [y1, w3, v3], by rw [v3]; exact hd', by rw [v3]; exact q3.2, y2, ?_⟩))
              rw [y3, y4]
              show (if τ6 127 nb = 13 then _ else _) = _
              rw [v6, if_neg (by decide), if_pos rfl]
          · refine ⟨0, τ6, τ6m, ?_, ?_, FrCp_tr (FrCp_tr (FrCp_tr (FrCp_od s1) (FrCp_cur f234)) (FrCp_add s5)) (FrCp_cur f6), FrS_cur (CurM_tr (CurM_tr (CurM_tr e2 e3) e4) e6), Or.inl ⟨rfl, fl⟩⟩
            · refine Eq.trans hcls ?_
              rw [a6, bnd_s]
            · rw [b6, bnd_s]
              show ((m_X12_opens 3 16 (D (t + 1)) v τ6m).bind fun σ54 => some σ54) = _
              rw [fopens fl, bnd_s]
        · refine ⟨0, τ4, τ4m, ?_, ?_, FrCp_tr (FrCp_od s1) (FrCp_cur (CurC_tr (CurC_tr f2 f3) f4)), FrS_cur (CurM_tr (CurM_tr e2 e3) e4), Or.inl ⟨rfl, fl⟩⟩
          · show (if (1 : Int) = 0 then _ else _) = _
            rw [if_neg (by decide), a3, bnd_s]
            show (if (1 : Int) = 0 then _ else _) = _
            rw [if_neg (by decide), a4, bnd_s]
            show (if (0 : Int) = 0 then _ else _) = _
            rw [if_pos rfl]
          · rw [b3, bnd_s]
            show ((m_X12_must 38 τ3m).bind _) = _
            obtain ⟨v, hv3⟩ := fnum fl (z := 95)
            rw [b4, bnd_s, hv3, bnd_s]
            show ((m_X12_opens 3 16 (D (t + 1)) v τ4m).bind fun σ54 => some σ54) = _
            rw [fopens fl, bnd_s]
      · refine ⟨0, τ3, τ3m, ?_, ?_, FrCp_tr (FrCp_od s1) (FrCp_cur (CurC_tr f2 f3)), FrS_cur (CurM_tr e2 e3), Or.inl ⟨rfl, fl⟩⟩
        · show (if (1 : Int) = 0 then _ else _) = _
          rw [if_neg (by decide), a3, bnd_s]
          show (if (0 : Int) = 0 then _ else _) = _
          rw [if_pos rfl]
        · rw [b3, bnd_s]
          show ((m_X12_must 38 τ3m).bind _) = _
          obtain ⟨v3, hv3⟩ := fnum fl (z := 95)
          rw [fmust fl, bnd_s, hv3, bnd_s]
          show ((m_X12_opens 3 16 v v3 τ3m).bind fun σ54 => some σ54) = _
          rw [fopens fl, bnd_s]
    · obtain ⟨τ3m, b3, fl2, e3⟩ := ftail fl (x2 := 37)
      refine ⟨0, τ2, τ3m, ?_, ?_, FrCp_tr (FrCp_od s1) (FrCp_cur f2), FrS_cur (CurM_tr e2 e3), Or.inl ⟨rfl, fl2⟩⟩
      · rw [a2, bnd_s, bnd_s]
        show (if (0 : Int) = 0 then _ else _) = _
        rw [if_pos rfl]
      · rw [b2, bnd_s, b3]
end
