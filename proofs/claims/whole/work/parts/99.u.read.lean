/-! READ -/
def untG (g : Nat → Nat → Bool) (gc : Nat → Bool) (L : Rg) : Bool := (L.1.all fun r => Nat.blt r.2 1000 && (List.range (r.2 + 1)).all fun k => Nat.blt k r.1 || !(gc k)) && (L.2.all fun s => Nat.blt s.1 1000 && !(g s.1 s.2))
theorem keepG {g : Nat → Nat → Bool} {gc : Nat → Bool} {L : Rg} {P : St → Prop} {σ σ' : St} (hD : Dep L P) (hg : ∀ k j, gc k = false → g k j = false) (hw : ∀ k j, k < 1000 → g k j = false → σ' k j = σ k j) (hu : untG g gc L = true) (h : P σ) : P σ' := by
  refine hD σ σ' (fun k j hk => ?_) h
  simp only [untG, Bool.and_eq_true, List.all_eq_true, Nat.blt_eq, Bool.or_eq_true, Bool.not_eq_true', List.mem_range] at hu
  obtain ⟨u1, u2⟩ := hu
  simp only [inR, Bool.or_eq_true] at hk
  rcases hk with hk | hk
  · rw [inC_sp] at hk
    obtain ⟨r, hr, hr1, hr2⟩ := hk
    obtain ⟨v1, v2⟩ := u1 r hr
    rcases v2 k (by omega) with v3 | v3
    · omega
    · exact hw k j (by omega) (hg k j v3)
  · rw [inS_sp] at hk
    obtain ⟨v1, v2⟩ := u2 _ hk
    exact hw k j v1 v2
def gA (k j : Nat) : Bool := decide ((17 ≤ k ∧ k ≤ 20) ∨ (118 ≤ k ∧ k ≤ 128) ∨ (k = 16 ∧ (j = 0 ∨ j = 6)) ∨ (k = 170 ∧ (j = 0 ∨ j = 2 ∨ j = 4 ∨ (10 ≤ j ∧ j ≤ 16) ∨ j = 18 ∨ j = 22 ∨ j = 27)) ∨ (172 ≤ k ∧ k ≤ 176) ∨ (178 ≤ k ∧ k ≤ 186))
def gcA (k : Nat) : Bool := decide ((16 ≤ k ∧ k ≤ 20) ∨ (118 ≤ k ∧ k ≤ 128) ∨ k = 170 ∨ (172 ≤ k ∧ k ≤ 176) ∨ (178 ≤ k ∧ k ≤ 186))
theorem gA_c (k j : Nat) (h : gcA k = false) : gA k j = false := by
  unfold gcA at h
  unfold gA
  rw [decide_eq_false_iff_not] at h ⊢
  omega
def gB (k j : Nat) : Bool := decide ((16 ≤ k ∧ k ≤ 20 ∧ (k ≠ 16 ∨ j = 0 ∨ j = 6)) ∨ (118 ≤ k ∧ k ≤ 128) ∨ (22 ≤ k ∧ k ≤ 29) ∨ ((39 ≤ k ∧ k ≤ 88 ∧ (k - 39) % 7 = 0) ∧ j = 2) ∨ (k = 170 ∧ (j = 0 ∨ j = 2 ∨ j = 4 ∨ (10 ≤ j ∧ j ≤ 18) ∨ j = 22 ∨ j = 27)) ∨ (172 ≤ k ∧ k ≤ 176) ∨ (178 ≤ k ∧ k ≤ 186) ∨ k = 192)
def gcB (k : Nat) : Bool := decide ((16 ≤ k ∧ k ≤ 20) ∨ (118 ≤ k ∧ k ≤ 128) ∨ (22 ≤ k ∧ k ≤ 29) ∨ (39 ≤ k ∧ k ≤ 88 ∧ (k - 39) % 7 = 0) ∨ k = 170 ∨ (172 ≤ k ∧ k ≤ 176) ∨ (178 ≤ k ∧ k ≤ 186) ∨ k = 192)
theorem gB_c (k j : Nat) (h : gcB k = false) : gB k j = false := by
  unfold gcB at h
  unfold gB
  rw [decide_eq_false_iff_not] at h ⊢
  omega
/-- what the class leaves: y is its answer, τ' what stood behind the codes -/
def CEnd (σ τ' : St) (y : Int) (σ1 : St) : Prop := σ1 16 0 = 0 ∧
  ((y ≠ 0 ∧ (∀ k j, ¬ (17 ≤ k ∧ k ≤ 20) → ¬ (118 ≤ k ∧ k ≤ 128) → ¬ (k = 16 ∧ (j = 0 ∨ j = 6)) → σ1 k j = σ k j) ∧ σ1 118 1 = y ∧ ((τ' 118 1 = y ∧ σ1 118 2 = τ' 118 2) ∨ (τ' 118 1 = 0 ∧ τ' 118 8 = y ∧ σ1 118 2 = τ' 118 9))) ∨
   (y = 0 ∧ τ' 118 1 = 0 ∧ τ' 118 8 = 0 ∧ σ1 118 1 = 0 ∧ (∀ k j, ¬ (17 ≤ k ∧ k ≤ 20) → ¬ (118 ≤ k ∧ k ≤ 128) → ¬ (k = 16 ∧ (j = 0 ∨ j = 6)) → ¬ (22 ≤ k ∧ k ≤ 29) → ¬ ((39 ≤ k ∧ k ≤ 88 ∧ (k - 39) % 7 = 0) ∧ j = 2) → σ1 k j = σ k j) ∧
    (∀ i j, 1 ≤ i → i ≤ 5 → j < 512 → σ1 (22 + i) j = τ' (119 + i) j) ∧ (∀ j, j < 8 → σ1 29 j = τ' 126 j) ∧ σ1 22 7 = τ' 119 7 ∧ σ1 22 8 = τ' 119 8 ∧ ∀ a, a < 8 → σ1 (39 + 7 * a) 2 = -1))
theorem cls_end {σ τ' : St} (hp : m_X4_parse σ = parseX τ') (h0 : ∀ k j, ¬ (17 ≤ k ∧ k ≤ 20) → ¬ (118 ≤ k ∧ k ≤ 128) → ¬ (k = 16 ∧ j = 6) → τ' k j = σ k j) : ∃ y σ1, m_X11_read σ = some (y, σ1) ∧ CEnd σ τ' y σ1 := by
  have bad : ∀ (y : Int) (σ2 : St), parseX τ' = some (y, σ2) → y ≠ 0 → (∀ k j, k ≠ 118 → σ2 k j = τ' k j) → σ2 118 1 = y → ((τ' 118 1 = y ∧ σ2 118 2 = τ' 118 2) ∨ (τ' 118 1 = 0 ∧ τ' 118 8 = y ∧ σ2 118 2 = τ' 118 9)) → ∃ y σ1, m_X11_read σ = some (y, σ1) ∧ CEnd σ τ' y σ1 := by
    intro y σ2 e1 hy f2 e2 e3
    refine ⟨y, up σ2 16 0 0, ?_, up_eq .., Or.inl ⟨hy, fun k j n1 n2 n3 => ?_, ?_, ?_⟩⟩
    · rw [m_X11_read, hp, e1, bnd_s]
      show ((pt σ2 16 0 0).bind fun σ3 => (if y = 0 then _ else some (y, σ3))) = _
      rw [pt_s, bnd_s, if_neg hy]
    · by_cases hk : k = 16
      · subst hk; rw [up_slot (by omega), f2 _ _ (by decide)]; exact h0 _ _ n1 n2 (by omega)
      · rw [up_cell hk, f2 _ _ (by omega)]; exact h0 _ _ n1 n2 (by omega)
    · rw [up_cell (by decide)]; exact e2
    · rw [up_cell (by decide)]; exact e3
  by_cases h1 : τ' 118 1 = 0
  · by_cases h8 : τ' 118 8 = 0
    · obtain ⟨σ5, o5, ⟨b1, b2, b3, b4, b5⟩⟩ := become_sp (σ := up τ' 16 0 0)
      obtain ⟨σ6, o6, g1, g2⟩ := ag_36 (σ := σ5)
      have hx : parseX τ' = some (0, τ') := by rw [parseX, if_pos h1, if_pos h8, h1]
      refine ⟨0, σ6, ?_, ?_, Or.inr ⟨rfl, h1, h8, ?_, fun k j n1 n2 n3 n4 n5 => ?_, fun i j i1 i2 hj => ?_, fun j hj => ?_, ?_, ?_, g2⟩⟩
      · rw [m_X11_read, hp, hx, bnd_s]
        show ((pt τ' 16 0 0).bind fun σ3 => (if (0 : Int) = 0 then (m_X5_become 22 119 σ3).bind fun σ5 => ((lp (fun a => m_X11_read_L36 a.1 a.2) (0, σ5)).bind fun σ12 => some ((0 : Int), σ12)) else some ((0 : Int), σ3))) = _
        rw [pt_s, bnd_s, if_pos rfl, o5, bnd_s, o6, bnd_s]
      · rw [g1 _ _ (by omega), b1 _ _ (by omega), up_eq]
      · rw [g1 _ _ (by omega), b1 _ _ (by omega), up_cell (by decide)]; exact h1
      · rw [g1 _ _ n5, b1 _ _ n4]
        by_cases hk : k = 16
        · subst hk; rw [up_slot (by omega)]; exact h0 _ _ n1 n2 (by omega)
        · rw [up_cell hk]; exact h0 _ _ n1 n2 (by omega)
      · rw [g1 _ _ (by omega), b2 i j i1 i2 hj, up_cell (by omega)]
      · rw [g1 _ _ (by omega), b3 j hj, up_cell (by omega)]
      · rw [g1 _ _ (by omega), b4, up_cell (by omega)]
      · rw [g1 _ _ (by omega), b5, up_cell (by omega)]
    · have hx : parseX τ' = some (τ' 118 8, up (up τ' 118 1 (τ' 118 8)) 118 2 (τ' 118 9)) := by
        rw [parseX, if_pos h1, if_neg h8, pt_s, bnd_s, up_slot (by decide), pt_s, bnd_s, up_slot (j := 1) (by decide), up_eq]
      refine bad _ _ hx h8 (fun k j hk => by rw [up_cell hk, up_cell hk]) (by rw [up_slot (by decide), up_eq]) (Or.inr ⟨h1, rfl, up_eq ..⟩)
  · have hx : parseX τ' = some (τ' 118 1, τ') := by rw [parseX, if_neg h1]
    exact bad _ _ hx h1 (fun _ _ _ => rfl) rfl (Or.inl ⟨rfl, rfl⟩)
theorem c_read : PS_read Inv := by
  intro σ hok hI
  obtain ⟨k1, k2, k3, k4, k5, k6, k7, k8, k9, k10, k11⟩ := hI
  have t0 := k3.1
  obtain ⟨n, hn⟩ := Int.eq_ofNat_of_zero_le t0.2.1
  obtain ⟨p1, p2, p3, p4, L, N, c, f, cx, cd, q1, q2, q3, q4, q5⟩ := k11
  have hbr : ∀ p, p < n → 0 ≤ σ 21 p ∧ σ 21 p ≤ 255 := fun p hp => by
    rw [k3.2 p (by omega)]; exact byte_in _
  have hTx : CTx (σ 21) n σ := ⟨hn, by omega, fun _ _ => rfl, hbr⟩
  obtain ⟨τ0, o0, f0, a0, c0, ⟨z1, z6, z7, z8⟩, y7, y8⟩ := parse_pre hTx
  have hT := text_tf (σ 21) n
  have hS : 1 - L < 2 := by omega
  -- where both begin
  have hEX : ∀ τm : St, AM (fun t => tkK (σ 21) n (tkS (σ 21) n t)) (fun t => tkS (σ 21) n t) (fun t => dgt (σ 21) (tkS (σ 21) n t) (en isD (σ 21) n (tkS (σ 21) n t) - tkS (σ 21) n t)) (fun t => lst (σ 21) (tkS (σ 21) n t) (en isL (σ 21) n (tkS (σ 21) n t) - tkS (σ 21) n t)) τm → (τm 170 11 = 0 ∧ τm 170 12 = 0 ∧ τm 170 14 = 0 ∧ τm 170 2 = 0) → τm 170 18 = ((1 - L : Nat) : Int) → τm 178 (1 - L) = 0 → τm 170 22 = ((1000 * (1 - L) : Nat) : Int) →
      EX (fun t => tkK (σ 21) n (tkS (σ 21) n t)) (fun t => tkS (σ 21) n t) (fun t => dgt (σ 21) (tkS (σ 21) n t) (en isD (σ 21) n (tkS (σ 21) n t) - tkS (σ 21) n t)) (fun t => lst (σ 21) (tkS (σ 21) n t) (en isL (σ 21) n (tkS (σ 21) n t) - tkS (σ 21) n t)) (1 - L) 0 0 0 0 0 τ0 τm := by
    intro τm hA ⟨m1, m2, m3, m4⟩ m5 m6 m7
    refine ⟨⟨⟨⟨fun j hj => absurd hj (Nat.not_lt_zero _), Nat.zero_le _⟩, ⟨a0, hA⟩, c0, m1, m2⟩, Or.inl ⟨z8, m3⟩⟩, ⟨z1, z7, z6⟩, ⟨hS, ⟨y7, Nat.le_refl _⟩, ⟨m7, Nat.le_refl _⟩, ⟨y8, m6, Nat.zero_le _⟩, m5⟩, fun i hi => absurd hi (Nat.not_lt_zero _), fun _ => ⟨fun _ => 1000 * (1 - L), fun _ => [], fun _ => 0, ⟨rfl, rfl⟩, fun p hp => absurd hp (Nat.not_lt_zero _), fun _ _ _ h => absurd h (Nat.not_lt_zero _), fun i hi => absurd hi (Nat.not_lt_zero _)⟩⟩
  have pre : ∀ σm : St, (∀ k j, 170 ≤ k → σm k j = σ k j) → _ := fun σm hm => read_pre (b := σ 21) (n := n) (L := L) (σ := σm) (by rw [hm _ _ (by decide), t0.1, hn]) (by omega) (fun p hp => by rw [hm _ _ (by decide)]; exact (k3.2 p (by omega)).symm) hbr (fun k hk => by rw [hm _ _ (by decide)]; exact k5 k hk) q2 (by rw [hm _ _ (by decide)]; exact q1)
  obtain ⟨τx, -, -, x1, x2, x3, x4, x5⟩ := pre σ (fun _ _ _ => rfl)
  obtain ⟨τ', τy, oL, -, fC, -, -⟩ := codes_rd hT (hEX τx x1 x2 x3 x4 x5)
  have hf : ∀ k j, ¬ (17 ≤ k ∧ k ≤ 20) → ¬ (118 ≤ k ∧ k ≤ 128) → ¬ (k = 16 ∧ j = 6) → τ' k j = σ k j := fun k j n1 n2 n3 => (fC k j n2).trans (f0 k j n1 n2 n3)
  obtain ⟨y, σ1, oC, hEnd⟩ := cls_end (by rw [o0, oL, bnd_s]) hf
  have hm1 : ∀ k j, 170 ≤ k → σ1 k j = σ k j := fun k j hk => by
    rcases hEnd.2 with ⟨-, h, -⟩ | ⟨-, -, -, -, h, -⟩
    · exact h k j (by omega) (by omega) (by omega)
    · exact h k j (by omega) (by omega) (by omega) (by omega) (by omega)
  obtain ⟨τm, oM, fm, w1, w2, w3, w4, w5⟩ := pre σ1 hm1
  obtain ⟨τ2, τm', oL2, oM2, -, fS, hcls⟩ := codes_rd hT (hEX τm w1 w2 w3 w4 w5)
  have h22 : τ2 = τ' := Option.some.inj (oL2.symm.trans oL)
  subst h22
  -- the model's cells behind the codes
  have fr : ∀ k j, ¬ (k = 170 ∧ (j = 0 ∨ j = 2 ∨ j = 4 ∨ (10 ≤ j ∧ j ≤ 15) ∨ j = 18 ∨ j = 22 ∨ j = 27)) → ¬ (172 ≤ k ∧ k ≤ 176) → ¬ (k = 178 ∧ j = 1 - L) → ¬ ((k = 179 ∨ k = 180) ∧ 8 * (1 - L) ≤ j ∧ j < 8 * (1 - L) + 8) → ¬ ((181 ≤ k ∧ k ≤ 184) ∧ 1000 * (1 - L) ≤ j ∧ j < 1000 * (1 - L) + 1000) → ¬ (k = 185 ∨ k = 186) → τm' k j = σ1 k j := fun k j n1 n2 n3 n4 n5 n6 => (fS k j (by omega) n3 n4 n5 n6).trans (fm k j (by omega) n2 n3)
  have e2 : τm' 170 2 = 0 := by rw [fS _ _ (by omega) (by omega) (by omega) (by omega) (by omega)]; exact w2.2.2.2
  have e17 : τm' 170 17 = (L : Int) := by rw [fr _ _ (by omega) (by omega) (by omega) (by omega) (by omega) (by omega), hm1 _ _ (by decide)]; exact q1
  have oR : m_X12_read σ1 = readX τm' := by rw [oM, oM2, bnd_s]
  -- a fault
  have bad : ∀ (e pl : Int), y = e → e ≠ 0 → σ1 118 2 = pl → readX τm' = some (e, up τm' 170 16 pl) → ∃ (y : Int) (σ1 σ2 : St), m_X11_read σ = some (y, σ1) ∧ m_X12_read σ1 = some (y, σ2) ∧ Inv σ2 := by
    intro e pl hy he hpl hx
    refine ⟨y, σ1, up τm' 170 16 pl, oC, by rw [oR, hx, hy], ?_⟩
    rcases hEnd with ⟨n0, ⟨-, n2, n3, -⟩ | ⟨n1, -⟩⟩
    · have hw : ∀ k j, k < 1000 → gA k j = false → (up τm' 170 16 pl) k j = σ k j := by
        intro k j hk hg
        unfold gA at hg
        rw [decide_eq_false_iff_not] at hg
        by_cases h17 : k = 170
        · subst h17
          rw [up_slot (by omega), fr _ _ (by omega) (by omega) (by omega) (by omega) (by omega) (by omega), hm1 _ _ (by decide)]
        · rw [up_cell h17, fr _ _ (by omega) (by omega) (by omega) (by omega) (by omega) (by omega), n2 _ _ (by omega) (by omega) (by omega)]
      have hp : ∀ k j, k ≠ 170 → (up τm' 170 16 pl) k j = τm' k j := fun k j hk => up_cell hk
      refine ⟨keepG dep_iTown gA_c hw (by decide +kernel) k1, keepG dep_iNear gA_c hw (by decide +kernel) k2, ⟨⟨?_, ?_, ?_⟩, fun i hi => ?_⟩, Or.inr ⟨?_, ?_⟩, keepG dep_iKeys gA_c hw (by decide +kernel) k5, keepG dep_iAg gA_c hw (by decide +kernel) k6, keepG dep_iBook gA_c hw (by decide +kernel) k7, keepG dep_iCan gA_c hw (by decide +kernel) k8, keepG dep_iFeed gA_c hw (by decide +kernel) k9, keepG dep_iRun gA_c hw (by decide +kernel) k10, ?_, ?_, ?_, ?_, L, N, c, f, cx, cd, ?_, q2, ?_, ?_, ?_⟩
      · rw [up_slot (by decide), e2, hp _ _ (by decide), fr _ _ (by omega) (by omega) (by omega) (by omega) (by omega) (by omega), n0]
      · rw [hp _ _ (by decide), fr _ _ (by omega) (by omega) (by omega) (by omega) (by omega) (by omega), n0]; decide
      · rw [hp _ _ (by decide), fr _ _ (by omega) (by omega) (by omega) (by omega) (by omega) (by omega), n0]; decide
      · rw [hp _ _ (by decide), fr _ _ (by omega) (by omega) (by omega) (by omega) (by omega) (by omega), n0] at hi
        omega
      · rw [hp _ _ (by decide), fr _ _ (by omega) (by omega) (by omega) (by omega) (by omega) (by omega), n3, hy]; exact he
      · rw [up_eq, hp _ _ (by decide), fr _ _ (by omega) (by omega) (by omega) (by omega) (by omega) (by omega), hpl]
      · rw [up_slot (by decide), e17]; omega
      · rw [up_slot (j := 17) (by decide), e17, Int.toNat_natCast, hp _ _ (by decide), fr _ _ (by omega) (by omega) (by omega) (by omega) (by omega) (by omega), hp _ _ (by decide), fr _ _ (by omega) (by omega) (by omega) (by omega) (by omega) (by omega), hm1 _ _ (by decide), n2 _ _ (by omega) (by omega) (by omega)]
        have e := p2
        rw [q1, Int.toNat_natCast] at e
        exact e
      · rw [hp _ _ (by decide), fr _ _ (by omega) (by omega) (by omega) (by omega) (by omega) (by omega), n2 _ _ (by omega) (by omega) (by omega)]; exact p3
      · rw [hp _ _ (by decide), fr _ _ (by omega) (by omega) (by omega) (by omega) (by omega) (by omega), n2 _ _ (by omega) (by omega) (by omega)]; exact p4
      · rw [up_slot (by decide)]; exact e17
      · rw [hp _ _ (by decide), fr _ _ (by omega) (by omega) (by omega) (by omega) (by omega) (by omega), n2 _ _ (by omega) (by omega) (by omega)]; exact q3
      · rw [hp _ _ (by decide), fr _ _ (by omega) (by omega) (by omega) (by omega) (by omega) (by omega), n2 _ _ (by omega) (by omega) (by omega)]; exact q4
      · refine pgt_half q5 (fun k j i1 i2 => ?_) (fun i hi => ?_) (fun k i i1 i2 i3 i4 => ?_)
        · rw [hp _ _ (by omega), fr _ _ (by omega) (by omega) (by omega) (by omega) (by omega) (by omega), n2 _ _ (by omega) (by omega) (by omega)]
        · rw [hp _ _ (by decide), fr _ _ (by omega) (by omega) (by omega) (by omega) (by omega) (by omega), hm1 _ _ (by decide)]
        · rw [hp _ _ (by omega), fr _ _ (by omega) (by omega) (by omega) (by omega) (by omega) (by omega), hm1 _ _ (by omega)]
    · exact absurd (hy.symm.trans n1) he
  rcases hcls with hfl | ⟨t, n', m', c', hE⟩
  · obtain ⟨e, j, he, g1, g2, g3, g4, -⟩ := hfl
    have hy : y = e ∧ σ1 118 2 = (tkS (σ 21) n j : Int) := by
      rcases hEnd.2 with ⟨-, -, -, ⟨x6, x7⟩ | ⟨x6, -⟩⟩ | ⟨-, x6, -⟩
      · exact ⟨by rw [← x6, g1], by rw [x7, g2]⟩
      · omega
      · omega
    refine bad e (tkS (σ 21) n j : Int) hy.1 (by omega) hy.2 ?_
    have h16 : (up τm' 170 16 (tkS (σ 21) n j : Int)) 170 12 = e := by rw [up_slot (by decide)]; exact g3
    rw [readX, if_neg (by omega), g4, m_X12_read_J149, pt_s, bnd_s, h16, if_neg (by omega)]
  · obtain ⟨⟨⟨⟨-, ht5⟩, -, -, -, b12⟩, hl⟩, ⟨b1, -, -⟩, ⟨-, ⟨b7, b7'⟩, ⟨b22, b22'⟩, ⟨b8, b178, b9⟩, b18⟩, -, hD⟩ := hE
    rcases hl with ⟨l1, l2⟩ | ⟨e, j, l1, -, l3, l4, l5, l6⟩
    · -- no fault: the draft becomes the program
      obtain ⟨f', cx', cd', ⟨d1, d2⟩, d3, d4, d5⟩ := hD l1
      rcases hEnd with ⟨n0, ⟨n1, -, -, ⟨x6, -⟩ | ⟨-, x6, -⟩⟩ | ⟨n1, -, -, n4, n5, n6, n7, n8, n9, n10⟩⟩
      · exact absurd (x6.symm.trans b1) n1
      · exact absurd (x6.symm.trans l1) n1
      · obtain ⟨τe, oe, g1, g2⟩ := mag_186 (σ := up (up τm' 170 16 (-1)) 170 17 ((1 - L : Nat) : Int))
        have h12 : (up τm' 170 16 (-1)) 170 12 = 0 := by rw [up_slot (by decide)]; exact b12
        have h14 : (up τm' 170 16 (-1)) 170 14 = 0 := by rw [up_slot (by decide)]; exact l2
        have h18 : (up τm' 170 16 (-1)) 170 18 = ((1 - L : Nat) : Int) := by rw [up_slot (by decide)]; exact b18
        have hx : readX τm' = some (0, τe) := by
          rw [readX, b12, if_pos (Int.le_refl _), l2, if_pos (Int.le_refl _), m_X12_read_J149, pt_s, bnd_s, h12, if_pos (Int.le_refl _), h14, if_pos (Int.le_refl _), h18, pt_s, bnd_s, oe, bnd_s]
        have he : ∀ k j, k ≠ 192 → ¬ (k = 170 ∧ (j = 16 ∨ j = 17)) → τe k j = τm' k j := fun k j h1 h2 => by
          rw [g1 k j h1]
          unfold up
          rw [if_neg (by omega), if_neg (by omega)]
        have hc : ∀ k j, k < 170 → τe k j = σ1 k j := fun k j h1 => by
          rw [he _ _ (by omega) (by omega), fr _ _ (by omega) (by omega) (by omega) (by omega) (by omega) (by omega)]
        have hw : ∀ k j, k < 1000 → gB k j = false → τe k j = σ k j := by
          intro k j hk hg
          unfold gB at hg
          rw [decide_eq_false_iff_not] at hg
          by_cases hlt : k < 170
          · rw [hc _ _ hlt, n5 _ _ (by omega) (by omega) (by omega) (by omega) (by omega)]
          · rw [he _ _ (by omega) (by omega), fr _ _ (by omega) (by omega) (by omega) (by omega) (by omega) (by omega), hm1 _ _ (by omega)]
        have hfm := dr_mono (fun p hp => (d3 p hp).1)
        refine ⟨y, σ1, τe, oC, by rw [oR, hx, n1], keepG dep_iTown gB_c hw (by decide +kernel) k1, keepG dep_iNear gB_c hw (by decide +kernel) k2, ⟨⟨?_, ?_, ?_⟩, fun i hi => ?_⟩, Or.inl ⟨?_, ?_⟩, keepG dep_iKeys gB_c hw (by decide +kernel) k5, ⟨?_, fun a ha => ⟨fun h6 => ⟨?_, ?_, ?_⟩, ?_, fun _ => ?_⟩⟩, keepG dep_iBook gB_c hw (by decide +kernel) k7, keepG dep_iCan gB_c hw (by decide +kernel) k8, keepG dep_iFeed gB_c hw (by decide +kernel) k9, keepG dep_iRun gB_c hw (by decide +kernel) k10, ?_, ?_, ?_, ?_, 1 - L, n', c', f', cx', cd', ?_, hS, ?_, ?_, ⟨by omega, b9, d1, by omega⟩, fun p hp => ?_, d4, fun i hi => ?_⟩
        · rw [he _ _ (by omega) (by omega), e2, hc _ _ (by decide), n0]
        · rw [hc _ _ (by decide), n0]; decide
        · rw [hc _ _ (by decide), n0]; decide
        · rw [hc _ _ (by decide), n0] at hi; omega
        · rw [hc _ _ (by decide)]; exact n4
        · rw [g1 _ _ (by decide), up_slot (by decide), up_eq]
        · rw [hw 170 35 (by decide) (by decide +kernel), hw 0 6 (by decide) (by decide +kernel)]; exact k6.1
        · rw [hw 0 6 (by decide) (by decide +kernel)] at h6
          rw [hw 190 a (by decide) (by unfold gB; rw [decide_eq_false_iff_not]; omega), hw (39 + 7 * a) 0 (by omega) (by unfold gB; rw [decide_eq_false_iff_not]; omega), hw 1 4 (by decide) (by decide +kernel)]
          exact ((k6.2 a ha).1 h6).1
        · rw [hw 0 6 (by decide) (by decide +kernel)] at h6
          rw [hw 191 a (by decide) (by unfold gB; rw [decide_eq_false_iff_not]; omega), hw (39 + 7 * a) 1 (by omega) (by unfold gB; rw [decide_eq_false_iff_not]; omega)]
          exact ((k6.2 a ha).1 h6).2.1
        · rw [g2 a ha, hc _ _ (by omega), n10 a ha]
        · rw [hc (39 + 7 * a) 2 (by omega), n10 a ha, hc 22 8 (by decide), n9, b8]; omega
        · rw [hc (39 + 7 * a) 2 (by omega), n10 a ha]
        · rw [g1 _ _ (by decide), up_eq]; omega
        · rw [g1 170 17 (by decide), up_eq, Int.toNat_natCast, he _ _ (by decide) (by omega), b178, hc _ _ (by decide), n9, b8]
        · rw [hc _ _ (by decide), n9, b8]; omega
        · rw [hc _ _ (by decide), n9, b8]; omega
        · rw [g1 _ _ (by decide), up_eq]
        · rw [hc _ _ (by decide), n8, b7]
        · rw [hc _ _ (by decide), n9, b8]
        · obtain ⟨r1, r2, r3, r4⟩ := d3 p hp
          refine ⟨r1, r2, r3, sok_st r4 (fun q h1 h2 => ?_) (fun i i1 i2 => ?_) (fun i i1 i2 => he _ _ (by omega) (by omega)) (fun _ _ => ⟨he _ _ (by decide) (by omega), he _ _ (by decide) (by omega)⟩)⟩
          · by_cases hq : q + 1 = n'
            · rw [hq]; exact Nat.le_refl _
            · exact Nat.le_of_lt (hfm n' (q + 1) (by omega) (Nat.le_refl _))
          · rw [hc _ _ (by omega)]; exact n6 i p i1 i2 (by omega)
        · obtain ⟨b, r1, r2, r3, r4, r5⟩ := d5 i hi
          refine ⟨b, ?_, r2, r3, r4, ?_⟩
          · rw [hc (22 + 7) i (by decide)]
            exact (n7 i (by omega)).trans r1
          · rw [he _ _ (by decide) (by omega)]; exact r5
    · have hy : y = e ∧ σ1 118 2 = (tkS (σ 21) n j : Int) := by
        rcases hEnd.2 with ⟨x5, -, -, ⟨x6, x7⟩ | ⟨x6, x7, x8⟩⟩ | ⟨-, -, x6, -⟩
        · exact absurd (x6.symm.trans b1) x5
        · exact ⟨by rw [← x7, l3], by rw [x8, l5]⟩
        · omega
      refine bad e (tkS (σ 21) n j : Int) hy.1 (by omega) hy.2 ?_
      have h12 : (up τm' 170 16 (tkS (σ 21) n j : Int)) 170 12 = 0 := by rw [up_slot (by decide)]; exact b12
      have h14 : (up τm' 170 16 (tkS (σ 21) n j : Int)) 170 14 = e := by rw [up_slot (by decide)]; exact l4
      rw [readX, b12, if_pos (Int.le_refl _), l4, if_neg (by omega), l6, m_X12_read_J149, pt_s, bnd_s, h12, if_pos (Int.le_refl _), h14, if_neg (by omega)]
