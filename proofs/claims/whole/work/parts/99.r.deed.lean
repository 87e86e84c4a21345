/-! DEEDS: else, end; any deed -/
section
variable {K : Nat → Int} {P : Nat → Nat} {D : Nat → Int} {NL : Nat → List Int} {S t n m c nb j p a : Nat} {τ τm τ' τm' : St}
theorem caim {T : Int} (h : τ 119 7 = (n : Int)) (hn : n ≤ 512) (hp : p < n) : m_X5_aim 119 (p : Int) T τ = some (up τ 124 p T) := by
  rw [m_X5_aim, m_X5_isStep, if_neg (by omega), h, if_neg (by omega), if_neg (by omega), bnd_s, if_neg (by decide), wt_ok (by omega) (by omega), bnd_s, Int.toNat_natCast]
/-- the class closes a loop, or a meet -/
theorem c_end_push {kd kk T : Int} (h6 : τ 118 6 = ((j + 1 : Nat) : Int)) (hj : j < 6) (h7 : τ 119 7 = (n : Int)) (hn : n < 511) (hp : τ 128 j = (p : Int)) (hpn : p < n) (hk : τ 127 j = kd) (hkd : (kd = 13 ∧ kk = 31 ∧ T = (p : Int) + 1) ∨ (kd = 15 ∧ kk = 33 ∧ T = ((n + 1 : Nat) : Int))) :
    ∃ τ1, m_X4_endOfBlock τ = (m_X4_accept 5 τ1).bind (fun r => some (r.1, r.2)) ∧ (∀ i k, ¬ (i = 118 ∧ k = 6) → ¬ ((120 ≤ i ∧ i ≤ 124) ∧ k = n) → ¬ (i = 124 ∧ k = p) → ¬ (i = 119 ∧ k = 7) → τ1 i k = τ i k) ∧ τ1 120 n = kk ∧ τ1 124 n = T ∧ τ1 124 p = ((n + 1 : Nat) : Int) ∧ τ1 119 7 = ((n + 1 : Nat) : Int) ∧ τ1 118 6 = (j : Int) := by
  obtain ⟨τ0, h0⟩ : ∃ τ0, τ0 = up τ 118 6 (j : Int) := ⟨_, rfl⟩
  have e6 : τ0 118 6 = (j : Int) := by rw [h0, up_eq]
  have f0 : ∀ i k, ¬ (i = 118 ∧ k = 6) → τ0 i k = τ i k := fun i k q => by
    rw [h0]
    by_cases hi : i = 118
    · subst hi; rw [up_slot (by omega)]
    · rw [up_cell hi]
  obtain ⟨τ2, a2, s1, ⟨v1, v2, v3, v4, v5⟩, s7⟩ := cadd_sp (k := kk) (v := 0) (w := 0) (τ := τ0) (n := n) (by rw [f0 _ _ (by omega)]; exact h7) (by omega)
  have am1 := caim (T := T) (p := n) s7 (by omega) (by omega)
  have e73 : (up τ2 124 n T) 119 7 = ((n + 1 : Nat) : Int) := by rw [up_cell (by decide)]; exact s7
  have am2 := caim (T := ((n + 1 : Nat) : Int)) (p := p) e73 (by omega) (by omega)
  have hw6 : wr (τ 118 6 - 1) = (j : Int) := by rw [h6, wr_id' (by omega) (by omega)]; omega
  refine ⟨up (up τ2 124 n T) 124 p ((n + 1 : Nat) : Int), ?_, fun i k n1 n2 n3 n4 => ?_, ?_, ?_, up_eq .., ?_, ?_⟩
  · have hJ : m_X4_endOfBlock_J127 (p : Int) (up τ2 124 n T) = (m_X4_accept 5 (up (up τ2 124 n T) 124 p ((n + 1 : Nat) : Int))).bind (fun r => some (r.1, r.2)) := by
      rw [m_X4_endOfBlock_J127, e73, am2, bnd_s]
    rw [m_X4_endOfBlock, if_neg (by omega), if_pos (by omega), hw6, pt_s, bnd_s, ← h0, e6, rd_ok (by omega) (by omega), bnd_s, Int.toNat_natCast, rd_ok (by omega) (by omega), bnd_s, Int.toNat_natCast, f0 _ _ (by omega), f0 _ _ (by omega), hk, hp]
    rcases hkd with ⟨q1, q2, q3⟩ | ⟨q1, q2, q3⟩
    · rw [if_pos q1, ← q2, a2, bnd_s]
      show ((m_X5_aim 119 (n : Int) (wr ((p : Int) + 1)) τ2).bind fun σ19 => m_X4_endOfBlock_J127 (p : Int) σ19) = _
      rw [wr_id' (by omega) (by omega), ← q3, am1, bnd_s, hJ]
    · rw [if_neg (by omega), if_pos q1, ← q2, a2, bnd_s]
      show ((m_X5_aim 119 (n : Int) (τ2 119 7) τ2).bind fun σ16 => m_X4_endOfBlock_J127 (p : Int) σ16) = _
      rw [s7, show m_X5_aim 119 (n : Int) ((n + 1 : Nat) : Int) τ2 = some (up τ2 124 n T) from by rw [← q3]; exact am1, bnd_s, hJ]
  · by_cases hi : i = 124
    · subst hi
      rw [up_slot (by omega), up_slot (by omega), s1 _ _ (by omega) (by omega)]; exact f0 _ _ n1
    · rw [up_cell hi, up_cell hi, s1 _ _ n2 n4]; exact f0 _ _ n1
  · rw [up_cell (by decide), up_cell (by decide)]; exact v1
  · rw [up_slot (by omega), up_eq]
  · rw [up_cell (by decide)]; exact e73
  · rw [up_cell (by decide), up_cell (by decide), s1 _ _ (by omega) (by omega)]; exact e6
theorem c_end_if (h6 : τ 118 6 = ((j + 1 : Nat) : Int)) (hj : j < 6) (h7 : τ 119 7 = (n : Int)) (hn : n < 511) (hp : τ 128 j = (p : Int)) (hpn : p < n) (hk : τ 127 j = 9 ∨ τ 127 j = 4) :
    ∃ τ1, m_X4_endOfBlock τ = (m_X4_accept 5 τ1).bind (fun r => some (r.1, r.2)) ∧ (∀ i k, ¬ (i = 118 ∧ k = 6) → ¬ (i = 124 ∧ k = p) → τ1 i k = τ i k) ∧ τ1 124 p = (n : Int) ∧ τ1 118 6 = (j : Int) := by
  have hw6 : wr (τ 118 6 - 1) = (j : Int) := by rw [h6, wr_id' (by omega) (by omega)]; omega
  have e7 : (up τ 118 6 (j : Int)) 119 7 = (n : Int) := by rw [up_cell (by decide)]; exact h7
  have am := caim (T := (n : Int)) (p := p) e7 (by omega) hpn
  refine ⟨up (up τ 118 6 (j : Int)) 124 p (n : Int), ?_, fun i k n1 n2 => ?_, up_eq .., ?_⟩
  · rw [m_X4_endOfBlock, if_neg (by omega), if_pos (by omega), hw6, pt_s, bnd_s, up_eq, rd_ok (by omega) (by omega), bnd_s, Int.toNat_natCast, rd_ok (by omega) (by omega), bnd_s, Int.toNat_natCast, up_cell (k' := 127) (by decide), up_cell (k' := 128) (by decide), hp, if_neg (by omega), if_neg (by omega), m_X4_endOfBlock_J127, e7, am, bnd_s]
  · unfold up
    rw [if_neg (by omega), if_neg (by omega)]
  · rw [up_cell (by decide), up_eq]
/-- the model closes a loop, or a meet -/
theorem m_end_push {i0 : Nat} {s oo aa : Int} (h27 : τm 170 27 = ((j + 2 : Nat) : Int)) (hj : j < 6) (h22 : τm 170 22 = (i0 : Int)) (hi : i0 < 2000) (ha : τm 186 (j + 1) = (a : Int)) (ha2 : a < 2000) (hs : τm 185 (j + 1) = s) (hss : (s = 1 ∧ oo = 13 ∧ aa = (a : Int) + 1) ∨ (s = 3 ∧ oo = 17 ∧ aa = 0)) :
    ∃ τ1, m_X12_ends τm = some τ1 ∧ (∀ k i, ¬ (k = 170 ∧ (i = 22 ∨ i = 27)) → ¬ ((181 ≤ k ∧ k ≤ 184) ∧ i = i0) → ¬ (k = 184 ∧ i = a) → τ1 k i = τm k i) ∧ τ1 181 i0 = oo ∧ τ1 182 i0 = aa ∧ τ1 184 a = ((i0 + 1 : Nat) : Int) ∧ τ1 170 22 = ((i0 + 1 : Nat) : Int) ∧ τ1 170 27 = ((j + 1 : Nat) : Int) := by
  obtain ⟨τ0, h0⟩ : ∃ τ0, τ0 = up τm 170 27 ((j + 1 : Nat) : Int) := ⟨_, rfl⟩
  have e27 : τ0 170 27 = ((j + 1 : Nat) : Int) := by rw [h0, up_eq]
  have f0 : ∀ k i, ¬ (k = 170 ∧ i = 27) → τ0 k i = τm k i := fun k i q => by
    rw [h0]
    by_cases hk : k = 170
    · subst hk; rw [up_slot (by omega)]
    · rw [up_cell hk]
  obtain ⟨τ2, o2, s1, ⟨v1, v2, v3, v4⟩, s5⟩ := emit_sp (o := oo) (a := aa) (b := 0) (d := 0) (τ := τ0) (i := i0) (by rw [f0 _ _ (by omega)]; exact h22) hi
  have hw : wr (τm 170 27 - 1) = ((j + 1 : Nat) : Int) := by rw [h27, wr_id' (by omega) (by omega)]; omega
  refine ⟨up τ2 184 a ((i0 + 1 : Nat) : Int), ?_, fun k i n1 n2 n3 => ?_, ?_, ?_, up_eq .., ?_, ?_⟩
  · rw [m_X12_ends, hw, pt_s, bnd_s, ← h0, e27, rd_ok (by omega) (by omega), bnd_s, Int.toNat_natCast, rd_ok (by omega) (by omega), bnd_s, Int.toNat_natCast, f0 _ _ (by omega), f0 _ _ (by omega), ha, hs]
    rcases hss with ⟨q1, q2, q3⟩ | ⟨q1, q2, q3⟩
    · rw [if_neg (by omega), if_pos q1, wr_id' (x := (a : Int) + 1) (by omega) (by omega), ← q2, ← q3, o2, bnd_s, s5, wt_ok (by omega) (by omega), bnd_s, Int.toNat_natCast]
    · rw [if_neg (by omega), if_neg (by omega), if_neg (by omega), if_pos q1, ← q2]
      rw [q3] at o2
      rw [o2, bnd_s, s5, wt_ok (by omega) (by omega), bnd_s, Int.toNat_natCast]
  · by_cases hk : k = 184
    · subst hk
      rw [up_slot (by omega), s1 _ _ (by omega) (by omega)]; exact f0 _ _ (by omega)
    · rw [up_cell hk, s1 _ _ n2 (by omega)]; exact f0 _ _ (by omega)
  · rw [up_cell (by decide)]; exact v1
  · rw [up_cell (by decide)]; exact v2
  · rw [up_cell (by decide)]; exact s5
  · rw [up_cell (by decide), s1 _ _ (by omega) (by omega)]; exact e27
/-- the model closes an if, or an else -/
theorem m_end_if {i0 : Nat} {s : Int} (h27 : τm 170 27 = ((j + 2 : Nat) : Int)) (hj : j < 6) (h22 : τm 170 22 = (i0 : Int)) (ha : τm 186 (j + 1) = (a : Int)) (ha2 : a < 2000) (hs : τm 185 (j + 1) = s) (hss : s = 2 ∨ s = 4) :
    ∃ τ1, m_X12_ends τm = some τ1 ∧ (∀ k i, ¬ (k = 170 ∧ i = 27) → ¬ (((s = 2 ∧ k = 184) ∨ (s = 4 ∧ k = 182)) ∧ i = a) → τ1 k i = τm k i) ∧ (s = 2 → τ1 184 a = (i0 : Int)) ∧ (s = 4 → τ1 182 a = (i0 : Int)) ∧ τ1 170 27 = ((j + 1 : Nat) : Int) := by
  obtain ⟨τ0, h0⟩ : ∃ τ0, τ0 = up τm 170 27 ((j + 1 : Nat) : Int) := ⟨_, rfl⟩
  have e27 : τ0 170 27 = ((j + 1 : Nat) : Int) := by rw [h0, up_eq]
  have f0 : ∀ k i, ¬ (k = 170 ∧ i = 27) → τ0 k i = τm k i := fun k i q => by
    rw [h0]
    by_cases hk : k = 170
    · subst hk; rw [up_slot (by omega)]
    · rw [up_cell hk]
  have hw : wr (τm 170 27 - 1) = ((j + 1 : Nat) : Int) := by rw [h27, wr_id' (by omega) (by omega)]; omega
  have e22 : τ0 170 22 = (i0 : Int) := by rw [f0 _ _ (by omega)]; exact h22
  have hopen : m_X12_ends τm = (if s = 0 then (m_X12_emit 18 0 0 0 τ0).bind fun σ8 => some σ8 else (if s = 1 then (m_X12_emit 13 (wr ((a : Int) + 1)) 0 0 τ0).bind fun σ10 => (wt σ10 184 2000 (a : Int) (σ10 170 22)).bind fun σ12 => some σ12 else (if s = 2 then (wt τ0 184 2000 (a : Int) (τ0 170 22)).bind fun σ15 => some σ15 else (if s = 3 then (m_X12_emit 17 0 0 0 τ0).bind fun σ17 => (wt σ17 184 2000 (a : Int) (σ17 170 22)).bind fun σ19 => some σ19 else (wt τ0 182 2000 (a : Int) (τ0 170 22)).bind fun σ21 => some σ21)))) := by
    rw [m_X12_ends, hw, pt_s, bnd_s, ← h0, e27, rd_ok (by omega) (by omega), bnd_s, Int.toNat_natCast, rd_ok (by omega) (by omega), bnd_s, Int.toNat_natCast, f0 _ _ (by omega), f0 _ _ (by omega), ha, hs]
  rw [hopen, if_neg (by omega), if_neg (by omega)]
  rcases hss with q | q
  · refine ⟨up τ0 184 a (i0 : Int), ?_, fun k i n1 n2 => ?_, fun _ => up_eq .., fun q' => by omega, ?_⟩
    · rw [if_pos q, e22, wt_ok (by omega) (by omega), bnd_s, Int.toNat_natCast]
    · by_cases hk : k = 184
      · subst hk; rw [up_slot (by omega)]; exact f0 _ _ n1
      · rw [up_cell hk]; exact f0 _ _ n1
    · rw [up_cell (by decide)]; exact e27
  · refine ⟨up τ0 182 a (i0 : Int), ?_, fun k i n1 n2 => ?_, fun q' => by omega, fun _ => up_eq .., ?_⟩
    · rw [if_neg (by omega), if_neg (by omega), e22, wt_ok (by omega) (by omega), bnd_s, Int.toNat_natCast]
    · by_cases hk : k = 182
      · subst hk; rw [up_slot (by omega)]; exact f0 _ _ n1
      · rw [up_cell hk]; exact f0 _ _ n1
    · rw [up_cell (by decide)]; exact e27
theorem ix_blk {t' n' m' nb' : Nat} (h : IX K P D NL S t n m c nb τ τm) (hj : JT K P D NL t' τ' τm') (ht : t + 1 ≤ t') (h1 : τ' 118 1 = 0)
    (fC : ∀ i k, ¬ (i = 118 ∧ (k = 1 ∨ k = 2 ∨ k = 6 ∨ (8 ≤ k ∧ k ≤ 14))) → ¬ (120 ≤ i ∧ i ≤ 124) → ¬ (i = 119 ∧ k = 7) → ¬ ((i = 127 ∨ i = 128) ∧ nb ≤ k + 1) → τ' i k = τ i k)
    (fM : ∀ k i, ¬ (k = 170 ∧ ((11 ≤ i ∧ i ≤ 15) ∨ i = 22 ∨ i = 27)) → ¬ (181 ≤ k ∧ k ≤ 184) → ¬ ((k = 185 ∨ k = 186) ∧ nb ≤ i) → τm' k i = τm k i)
    (hn : τ' 119 7 = (n' : Int) ∧ n ≤ n' ∧ n' ≤ n + 1) (hm : τm' 170 22 = ((1000 * S + m' : Nat) : Int) ∧ m ≤ m' ∧ m' ≤ m + 2) (hb : nb ≠ 0 ∧ τ' 118 6 = (nb' : Int) ∧ τm' 170 27 = ((nb' + 1 : Nat) : Int) ∧ (nb' + 1 = nb ∨ nb' = nb))
    (htop : nb' = nb → (τ' 127 (nb - 1) = 4 ∧ τm' 185 nb = 4) ∧ τ' 128 (nb - 1) = (n : Int) ∧ n' = n + 1 ∧ ∃ a : Nat, τm' 186 nb = (a : Int) ∧ 1000 * S ≤ a ∧ a < 1000 * S + m')
    (hD : τ' 118 8 = 0 → ∃ f cx cd, DrP S n' m' c f cx cd (Opn nb' τ') τ' τm' ∧ DrQ n' c nb' f cx cd τ' τm') : IX K P D NL S t' n' m' c nb' τ' τm' := by
  obtain ⟨-, ⟨g1, g2⟩, ⟨u1, ⟨u2, u3⟩, ⟨u4, u5⟩, ⟨u6, u7, u8⟩, ⟨u9, u10, u11⟩, u12, u13⟩, hB, hN, -⟩ := h
  obtain ⟨b1, b2, b3, b4⟩ := hb
  refine ⟨hj, ⟨h1, ?_⟩, ⟨u1, ⟨hn.1, by omega⟩, ⟨hm.1, by omega⟩, ⟨?_, ?_, u8⟩, ⟨b2, by omega, b3⟩, ?_, ?_⟩, fun j hjb => ?_, fun i hi => ?_, hD⟩
  · rw [fC _ _ (by omega) (by omega) (by omega) (by omega)]; exact g2
  · rw [fC _ _ (by omega) (by omega) (by omega) (by omega)]; exact u6
  · rw [fM _ _ (by omega) (by omega) (by omega)]; exact u7
  · rw [fM _ _ (by omega) (by omega) (by omega)]; exact u12
  · rw [fM _ _ (by omega) (by omega) (by omega)]; exact u13
  · by_cases hlt : j + 1 < nb
    · obtain ⟨c1, p, a, c2, c3, c4, c5, c6⟩ := hB j (by omega)
      rw [fC 127 _ (by omega) (by omega) (by omega) (by omega), fC 128 _ (by omega) (by omega) (by omega) (by omega), fM 185 _ (by omega) (by omega) (by omega), fM 186 _ (by omega) (by omega) (by omega)]
      exact ⟨c1, p, a, c2, by omega, c4, c5, by omega⟩
    · have hnn : nb' = nb := by omega
      obtain ⟨⟨d1, d2⟩, d3, d4, a, d5, d6, d7⟩ := htop hnn
      have ej : nb = j + 1 := by omega
      rw [ej] at d1 d2 d3 d5
      have ej2 : j + 1 - 1 = j := by omega
      rw [ej2] at d1 d3
      exact ⟨Or.inr (Or.inr (Or.inr ⟨d1, d2⟩)), n, a, d3, by omega, d5, d6, d7⟩
  · obtain ⟨l, l1, l2, l3⟩ := hN i hi
    exact ⟨l, l1, by rw [fC 125 _ (by omega) (by omega) (by omega) (by omega)]; exact l2, by rw [fM 179 _ (by omega) (by omega) (by omega)]; exact l3⟩
/-- the end of a loop, a meet -/
theorem end_push (hT : TF K P D NL) (h : IX K P D NL S t n m c (j + 1) τ τm) (hk : K t = 5) (hkd : τ 127 j = 13 ∨ τ 127 j = 15) : ∃ x τ' τm', m_X4_endOfBlock τ = some (x, τ') ∧ m_X12_tellDeed τm = some τm' ∧ DOut K P D NL S t τ τm x τ' τm' := by
  have h0 := h
  obtain ⟨hj, ⟨g1, g2⟩, ⟨u1, ⟨u2, u3⟩, ⟨u4, u5⟩, ⟨u6, u7, u8⟩, ⟨u9, u10, u11⟩, u12, u13⟩, hB, hN, hD⟩ := h
  have ht5 := hj.1.1.2
  obtain ⟨bk, p, a, b1, b2, b3, b4, b5⟩ := hB j (Nat.lt_succ_self j)
  obtain ⟨kk, T, oo, aa, hkk, hss⟩ : ∃ kk T oo aa : Int, ((τ 127 j = 13 ∧ kk = 31 ∧ T = (p : Int) + 1) ∨ (τ 127 j = 15 ∧ kk = 33 ∧ T = ((n + 1 : Nat) : Int))) ∧ ((τm 185 (j + 1) = 1 ∧ oo = 13 ∧ aa = (a : Int) + 1) ∨ (τm 185 (j + 1) = 3 ∧ oo = 17 ∧ aa = 0)) := by
    rcases hkd with q | q
    · exact ⟨31, (p : Int) + 1, 13, (a : Int) + 1, Or.inl ⟨q, rfl, rfl⟩, Or.inl ⟨by omega, rfl, rfl⟩⟩
    · exact ⟨33, ((n + 1 : Nat) : Int), 17, 0, Or.inr ⟨q, rfl, rfl⟩, Or.inr ⟨by omega, rfl, rfl⟩⟩
  obtain ⟨τ1, o1, f1, v1, v2, v3, v4, v5⟩ := c_end_push u9 (by omega) u2 (by omega) b1 b2 rfl hkk
  have j1 : JT K P D NL t τ1 τm := jt_cg hj (fun i k q => f1 i k (by omega) (by omega) (by omega) (by omega)) (fun _ _ _ => rfl)
  rw [o1, md_end hT hj hk]
  have mend : ∀ τx, CurM τm τx → ∃ τ1, m_X12_ends τx = some τ1 ∧ (∀ k i, ¬ (k = 170 ∧ (i = 22 ∨ i = 27)) → ¬ ((181 ≤ k ∧ k ≤ 184) ∧ i = 1000 * S + m) → ¬ (k = 184 ∧ i = a) → τ1 k i = τx k i) ∧ τ1 181 (1000 * S + m) = oo ∧ τ1 182 (1000 * S + m) = aa ∧ τ1 184 a = ((1000 * S + m + 1 : Nat) : Int) ∧ τ1 170 22 = ((1000 * S + m + 1 : Nat) : Int) ∧ τ1 170 27 = ((j + 1 : Nat) : Int) := by
    intro τx hx
    exact m_end_push (s := τm 185 (j + 1)) (by rw [hx _ _ (by omega)]; exact u11) (by omega) (by rw [hx _ _ (by omega)]; exact u4) (by omega) (by rw [hx _ _ (by omega)]; exact b3) (by omega) (hx _ _ (by omega)) hss
  rcases jnextT j1 hk (by decide) with ⟨g0, τ2, τ2m, a2, m2, j2, f2, e2, l2, z2⟩ | ⟨τ2, τ2m, a2, m2, fl, f2, e2⟩
  · obtain ⟨τ3m, o3, f3, w1, w2, w3, w4, w5⟩ := mend τ2m e2
    have cfr : ∀ i k, ¬ (i = 118 ∧ (k = 1 ∨ k = 2 ∨ k = 6 ∨ (8 ≤ k ∧ k ≤ 14))) → ¬ ((120 ≤ i ∧ i ≤ 124) ∧ k = n) → ¬ (i = 124 ∧ k = p) → ¬ (i = 119 ∧ k = 7) → τ2 i k = τ i k := fun i k n1 n2 n3 n4 => (f2 i k (by omega)).trans (f1 i k (by omega) n2 n3 n4)
    have mfr : ∀ k i, ¬ (k = 170 ∧ ((11 ≤ i ∧ i ≤ 15) ∨ i = 22 ∨ i = 27)) → ¬ ((181 ≤ k ∧ k ≤ 184) ∧ i = 1000 * S + m) → ¬ (k = 184 ∧ i = a) → τ3m k i = τm k i := fun k i n1 n2 n3 => (f3 k i (by omega) n2 n3).trans (e2 k i (by omega))
    refine ⟨1, τ2, τ3m, ?_, ?_, fun i k q => cfr i k (by omega) (by omega) (by omega) (by omega), fun k i n1 n2 n3 n4 n5 => mfr k i n1 (by omega) (by omega), Or.inr ⟨rfl, t + 1, by omega, Or.inl ⟨n + 1, m + 1, c, j, ?_⟩⟩⟩
    · rw [a2, bnd_s]
    · rw [m2, bnd_s, o3, bnd_s]
    · refine ix_blk h0 (jt_cg j2 (fun _ _ _ => rfl) (fun k i q => f3 k i (by omega) (by omega) (by omega))) (Nat.le_refl _) (by rw [z2, f1 _ _ (by omega) (by omega) (by omega) (by omega)]; exact g1) (fun i k n1 n2 n3 n4 => cfr i k n1 (by omega) (by omega) n3) (fun k i n1 n2 n3 => mfr k i n1 (by omega) (by omega)) ⟨by rw [f2 _ _ (by omega)]; exact v4, by omega, by omega⟩ ⟨w4, by omega, by omega⟩ ⟨by omega, by rw [f2 _ _ (by omega)]; exact v5, w5, Or.inl rfl⟩ (fun q => by omega) (fun q => ?_)
      obtain ⟨f, cx, cd, hP, hQ⟩ := hD (by rw [← f1 118 8 (by omega) (by omega) (by omega) (by omega), ← l2]; exact q)
      have gC : ∀ i k, 120 ≤ i → i ≤ 124 → k ≠ n → ¬ (i = 124 ∧ k = p) → τ2 i k = τ i k := fun i k i1 i2 i3 i4 => cfr i k (by omega) (by omega) i4 (by omega)
      have gB : ∀ i, i ≤ j → τ2 127 i = τ 127 i ∧ τ2 128 i = τ 128 i ∧ τ3m 186 (i + 1) = τm 186 (i + 1) := fun i hi => ⟨cfr _ _ (by omega) (by omega) (by omega) (by omega), cfr _ _ (by omega) (by omega) (by omega) (by omega), mfr _ _ (by omega) (by omega) (by omega)⟩
      have g126 : τ2 126 = τ 126 := funext fun i => cfr _ _ (by omega) (by omega) (by omega) (by omega)
      have g180 : τ3m 180 = τm 180 := funext fun i => mfr _ _ (by omega) (by omega) (by omega)
      have gM : ∀ k i, 181 ≤ k → k ≤ 184 → i < 1000 * S + m → ¬ (k = 184 ∧ i = a) → τ3m k i = τm k i := fun k i i1 i2 i3 i4 => mfr k i (by omega) (by omega) i4
      have x1 : τ2 120 n = kk := by rw [f2 _ _ (by omega)]; exact v1
      have x2 : τ2 124 n = T := by rw [f2 _ _ (by omega)]; exact v2
      have x3 : τ2 124 p = ((n + 1 : Nat) : Int) := by rw [f2 _ _ (by omega)]; exact v3
      rcases hkk with ⟨y1, y2, y3⟩ | ⟨y1, y2, y3⟩
      · rcases hss with ⟨z1, z3, z4⟩ | ⟨z1, z3, z4⟩
        · exact close_loop hP hQ (by omega) y1 b1 b3 gC gB g126 g180 gM (by rw [x1, y2]) (by rw [x2, y3]) x3 (by rw [w1, z3]) (by rw [w2, z4]) w3
        · omega
      · rcases hss with ⟨z1, z3, z4⟩ | ⟨z1, z3, z4⟩
        · omega
        · exact close_meet hP hQ (by omega) y1 b1 b3 gC gB g126 g180 gM (by rw [x1, y2]) (by rw [x2, y3]) x3 (by rw [w1, z3]) w3
  · obtain ⟨τ3m, o3, f3, -⟩ := mend τ2m e2
    refine ⟨0, τ2, τ3m, ?_, ?_, fun i k q => (f2 i k (by omega)).trans (f1 i k (by omega) (by omega) (by omega) (by omega)), fun k i n1 n2 n3 n4 n5 => (f3 k i (by omega) (by omega) (by omega)).trans (e2 k i (by omega)), Or.inl ⟨rfl, fl_cg fl (fun _ _ => rfl) (fun i i1 i2 => f3 170 i (by omega) (by omega) (by omega))⟩⟩
    · rw [a2, bnd_s]
    · rw [m2, bnd_s, o3, bnd_s]
/-- the end of an if, an else -/
theorem end_if (hT : TF K P D NL) (h : IX K P D NL S t n m c (j + 1) τ τm) (hk : K t = 5) (hkd : τ 127 j = 9 ∨ τ 127 j = 4) : ∃ x τ' τm', m_X4_endOfBlock τ = some (x, τ') ∧ m_X12_tellDeed τm = some τm' ∧ DOut K P D NL S t τ τm x τ' τm' := by
  have h0 := h
  obtain ⟨hj, ⟨g1, g2⟩, ⟨u1, ⟨u2, u3⟩, ⟨u4, u5⟩, ⟨u6, u7, u8⟩, ⟨u9, u10, u11⟩, u12, u13⟩, hB, hN, hD⟩ := h
  have ht5 := hj.1.1.2
  obtain ⟨bk, p, a, b1, b2, b3, b4, b5⟩ := hB j (Nat.lt_succ_self j)
  have hss : τm 185 (j + 1) = 2 ∨ τm 185 (j + 1) = 4 := by omega
  obtain ⟨τ1, o1, f1, v3, v5⟩ := c_end_if u9 (by omega) u2 (by omega) b1 b2 hkd
  have j1 : JT K P D NL t τ1 τm := jt_cg hj (fun i k q => f1 i k (by omega) (by omega)) (fun _ _ _ => rfl)
  rw [o1, md_end hT hj hk]
  have mend : ∀ τx, CurM τm τx → ∃ τ1, m_X12_ends τx = some τ1 ∧ (∀ k i, ¬ (k = 170 ∧ i = 27) → ¬ (((τm 185 (j + 1) = 2 ∧ k = 184) ∨ (τm 185 (j + 1) = 4 ∧ k = 182)) ∧ i = a) → τ1 k i = τx k i) ∧ (τm 185 (j + 1) = 2 → τ1 184 a = ((1000 * S + m : Nat) : Int)) ∧ (τm 185 (j + 1) = 4 → τ1 182 a = ((1000 * S + m : Nat) : Int)) ∧ τ1 170 27 = ((j + 1 : Nat) : Int) := by
    intro τx hx
    exact m_end_if (by rw [hx _ _ (by omega)]; exact u11) (by omega) (by rw [hx _ _ (by omega)]; exact u4) (by rw [hx _ _ (by omega)]; exact b3) (by omega) (hx _ _ (by omega)) hss
  rcases jnextT j1 hk (by decide) with ⟨g0, τ2, τ2m, a2, m2, j2, f2, e2, l2, z2⟩ | ⟨τ2, τ2m, a2, m2, fl, f2, e2⟩
  · obtain ⟨τ3m, o3, f3, w1, w2, w5⟩ := mend τ2m e2
    have cfr : ∀ i k, ¬ (i = 118 ∧ (k = 1 ∨ k = 2 ∨ k = 6 ∨ (8 ≤ k ∧ k ≤ 14))) → ¬ (i = 124 ∧ k = p) → τ2 i k = τ i k := fun i k n1 n3 => (f2 i k (by omega)).trans (f1 i k (by omega) n3)
    have mfr : ∀ k i, ¬ (k = 170 ∧ ((11 ≤ i ∧ i ≤ 15) ∨ i = 27)) → ¬ (((τm 185 (j + 1) = 2 ∧ k = 184) ∨ (τm 185 (j + 1) = 4 ∧ k = 182)) ∧ i = a) → τ3m k i = τm k i := fun k i n1 n3 => (f3 k i (by omega) n3).trans (e2 k i (by omega))
    refine ⟨1, τ2, τ3m, ?_, ?_, fun i k q => cfr i k (by omega) (by omega), fun k i n1 n2 n3 n4 n5 => mfr k i (by omega) (by omega), Or.inr ⟨rfl, t + 1, by omega, Or.inl ⟨n, m, c, j, ?_⟩⟩⟩
    · rw [a2, bnd_s]
    · rw [m2, bnd_s, o3, bnd_s]
    · refine ix_blk h0 (jt_cg j2 (fun _ _ _ => rfl) (fun k i q => f3 k i (by omega) (by omega))) (Nat.le_refl _) (by rw [z2, f1 _ _ (by omega) (by omega)]; exact g1) (fun i k n1 n2 n3 n4 => cfr i k n1 (by omega)) (fun k i n1 n2 n3 => mfr k i (by omega) (by omega)) ⟨by rw [cfr _ _ (by omega) (by omega)]; exact u2, Nat.le_refl _, by omega⟩ ⟨by rw [mfr _ _ (by omega) (by omega)]; exact u4, by omega, by omega⟩ ⟨by omega, by rw [f2 _ _ (by omega)]; exact v5, w5, Or.inl rfl⟩ (fun q => by omega) (fun q => ?_)
      obtain ⟨f, cx, cd, hP, hQ⟩ := hD (by rw [← f1 118 8 (by omega) (by omega), ← l2]; exact q)
      refine close_if hP hQ hkd b1 b3 (fun i k i1 i2 i4 => cfr i k (by omega) i4) (fun i hi => ⟨cfr _ _ (by omega) (by omega), cfr _ _ (by omega) (by omega), mfr _ _ (by omega) (by omega)⟩) (funext fun i => cfr _ _ (by omega) (by omega)) (funext fun i => mfr _ _ (by omega) (by omega)) (fun k i i1 i2 i4 => mfr k i (by omega) (by omega)) (by rw [f2 _ _ (by omega)]; exact v3) (fun q => w1 (by omega)) (fun q => w2 (by omega))
  · obtain ⟨τ3m, o3, f3, -⟩ := mend τ2m e2
    refine ⟨0, τ2, τ3m, ?_, ?_, fun i k q => (f2 i k (by omega)).trans (f1 i k (by omega) (by omega)), fun k i n1 n2 n3 n4 n5 => (f3 k i (by omega) (by omega)).trans (e2 k i (by omega)), Or.inl ⟨rfl, fl_cg fl (fun _ _ => rfl) (fun i i1 i2 => f3 170 i (by omega) (by omega))⟩⟩
    · rw [a2, bnd_s]
    · rw [m2, bnd_s, o3, bnd_s]
/-- the end of a code -/
theorem end_code (hT : TF K P D NL) (h : IX K P D NL S t n m c 0 τ τm) (hk : K t = 5) : ∃ x τ' τm', m_X4_endOfBlock τ = some (x, τ') ∧ m_X12_tellDeed τm = some τm' ∧ DOut K P D NL S t τ τm x τ' τm' := by
  have h0 := h
  obtain ⟨hj, ⟨g1, g2⟩, ⟨u1, ⟨u2, u3⟩, ⟨u4, u5⟩, ⟨u6, u7, u8⟩, ⟨u9, u10, u11⟩, u12, u13⟩, hB, hN, hD⟩ := h
  have ht5 := hj.1.1.2
  obtain ⟨τa, aa, s1, ⟨v1, v2, v3, v4, v5⟩, s7⟩ := cadd_sp (k := 34) (v := 0) (w := 0) (τ := τ) (n := n) u2 (by omega)
  obtain ⟨τ1, hτ1⟩ : ∃ τ1, τ1 = up (up τa 119 8 ((c + 1 : Nat) : Int)) 118 7 0 := ⟨_, rfl⟩
  have f1 : ∀ i k, ¬ (i = 118 ∧ k = 7) → ¬ ((120 ≤ i ∧ i ≤ 124) ∧ k = n) → ¬ (i = 119 ∧ (k = 7 ∨ k = 8)) → τ1 i k = τ i k := fun i k n1 n2 n3 => by
    rw [hτ1]
    unfold up
    rw [if_neg (by omega), if_neg (by omega)]
    exact s1 i k n2 (by omega)
  have o1 : m_X4_endOfBlock τ = (m_X4_accept 5 τ1).bind (fun r => some (r.1, r.2)) := by
    have e8 : τa 119 8 = (c : Int) := by rw [s1 _ _ (by omega) (by omega)]; exact u6
    rw [m_X4_endOfBlock, u9, if_pos (by decide), m_X4_endOfBlock_J16, m_X5_endCode, u6, if_neg (by omega), aa, bnd_s]
    show (((pt τa 119 8 (wr (τa 119 8 + 1))).bind fun σ6 => some σ6).bind fun σ26 => (pt σ26 118 7 0).bind fun σ27 => (m_X4_accept 5 σ27).bind fun (x28, σ29) => some (x28, σ29)) = _
    rw [e8, nx1 (by omega), pt_s, bnd_s, bnd_s, pt_s, bnd_s, ← hτ1]
  have j1 : JT K P D NL t τ1 τm := jt_cg hj (fun i k q => f1 i k (by omega) (by omega) (by omega)) (fun _ _ _ => rfl)
  rw [o1, md_end hT hj hk]
  have mend : ∀ τx, CurM τm τx → ∃ τ1, m_X12_ends τx = some τ1 ∧ (∀ k i, ¬ (k = 170 ∧ (i = 22 ∨ i = 27)) → ¬ ((181 ≤ k ∧ k ≤ 184) ∧ i = 1000 * S + m) → τ1 k i = τx k i) ∧ τ1 181 (1000 * S + m) = 18 ∧ τ1 170 22 = ((1000 * S + m + 1 : Nat) : Int) ∧ τ1 170 27 = 0 := by
    intro τx hx
    have h27 : τx 170 27 = 1 := by rw [hx _ _ (by omega), u11]; rfl
    obtain ⟨τ0, h0'⟩ : ∃ τ0, τ0 = up τx 170 27 0 := ⟨_, rfl⟩
    have e27 : τ0 170 27 = 0 := by rw [h0', up_eq]
    have f0 : ∀ k i, ¬ (k = 170 ∧ i = 27) → τ0 k i = τx k i := fun k i q => by
      rw [h0']
      by_cases hk : k = 170
      · subst hk; rw [up_slot (by omega)]
      · rw [up_cell hk]
    obtain ⟨τ2, o2, r1, ⟨r2, -⟩, r3⟩ := emit_sp (o := 18) (a := 0) (b := 0) (d := 0) (τ := τ0) (i := 1000 * S + m) (by rw [f0 _ _ (by omega), hx _ _ (by omega)]; exact u4) (by omega)
    refine ⟨τ2, ?_, fun k i n1 n2 => (r1 k i n2 (by omega)).trans (f0 k i (by omega)), r2, r3, by rw [r1 _ _ (by omega) (by omega)]; exact e27⟩
    rw [m_X12_ends, h27, show wr (1 - 1) = 0 by decide, pt_s, bnd_s, ← h0', e27, rd_ok (by decide) (by decide), bnd_s, rd_ok (by decide) (by decide), bnd_s]
    show (if τ0 185 0 = 0 then _ else _) = _
    rw [if_pos (by rw [f0 _ _ (by omega), hx _ _ (by omega)]; exact u12), o2, bnd_s]
  rcases jnextT j1 hk (by decide) with ⟨g0, τ2, τ2m, a2, m2, j2, f2, e2, l2, z2⟩ | ⟨τ2, τ2m, a2, m2, fl, f2, e2⟩
  · obtain ⟨τ3m, o3, f3, w1, w4, w5⟩ := mend τ2m e2
    have cfr : ∀ i k, ¬ (i = 118 ∧ (k = 1 ∨ k = 2 ∨ k = 7 ∨ (8 ≤ k ∧ k ≤ 14))) → ¬ ((120 ≤ i ∧ i ≤ 124) ∧ k = n) → ¬ (i = 119 ∧ (k = 7 ∨ k = 8)) → τ2 i k = τ i k := fun i k n1 n2 n4 => (f2 i k (by omega)).trans (f1 i k (by omega) n2 n4)
    have mfr : ∀ k i, ¬ (k = 170 ∧ ((11 ≤ i ∧ i ≤ 15) ∨ i = 22 ∨ i = 27)) → ¬ ((181 ≤ k ∧ k ≤ 184) ∧ i = 1000 * S + m) → τ3m k i = τm k i := fun k i n1 n2 => (f3 k i (by omega) n2).trans (e2 k i (by omega))
    refine ⟨1, τ2, τ3m, ?_, ?_, fun i k q => cfr i k (by omega) (by omega) (by omega), fun k i n1 n2 n3 n4 n5 => mfr k i n1 (by omega), Or.inr ⟨rfl, t + 1, by omega, Or.inr ⟨n + 1, m + 1, c, ⟨jt_cg j2 (fun _ _ _ => rfl) (fun k i q => f3 k i (by omega) (by omega)), ⟨?_, ?_, ?_⟩, ⟨u1, ⟨?_, by omega⟩, ⟨w4, by omega⟩, ⟨?_, ?_, by omega⟩, ?_⟩, fun i hi => ?_, fun q => ?_⟩, w5⟩⟩⟩
    · rw [a2, bnd_s]
    · rw [m2, bnd_s, o3, bnd_s]
    · rw [z2, f1 _ _ (by omega) (by omega) (by omega)]; exact g1
    · rw [f2 _ _ (by omega), hτ1, up_eq]
    · rw [cfr _ _ (by omega) (by omega) (by omega)]; exact u9
    · rw [f2 _ _ (by omega), hτ1, up_cell (by decide), up_slot (by decide)]; exact s7
    · rw [f2 _ _ (by omega), hτ1, up_cell (by decide), up_eq]
    · rw [mfr _ _ (by omega) (by omega)]; exact u7
    · rw [mfr _ _ (by omega) (by omega)]; exact u13
    · obtain ⟨l, l1, l2', l3⟩ := hN i hi
      exact ⟨l, l1, by rw [cfr 125 _ (by omega) (by omega) (by omega)]; exact l2', by rw [mfr 179 _ (by omega) (by omega)]; exact l3⟩
    · obtain ⟨f, cx, cd, hP, hQ⟩ := hD (by rw [← f1 118 8 (by omega) (by omega) (by omega), ← l2]; exact q)
      refine close_code hP hQ (fun i k i1 i2 i3 => cfr i k (by omega) (by omega) (by omega)) (funext fun i => cfr _ _ (by omega) (by omega) (by omega)) (funext fun i => mfr _ _ (by omega) (by omega)) (fun k i i1 i2 i3 => mfr k i (by omega) (by omega)) ?_ w1
      rw [f2 _ _ (by omega), hτ1, up_cell (by decide), up_cell (by decide)]; exact v1
  · obtain ⟨τ3m, o3, f3, -⟩ := mend τ2m e2
    refine ⟨0, τ2, τ3m, ?_, ?_, fun i k q => (f2 i k (by omega)).trans (f1 i k (by omega) (by omega) (by omega)), fun k i n1 n2 n3 n4 n5 => (f3 k i (by omega) (by omega)).trans (e2 k i (by omega)), Or.inl ⟨rfl, fl_cg fl (fun _ _ => rfl) (fun i i1 i2 => f3 170 i (by omega) (by omega))⟩⟩
    · rw [a2, bnd_s]
    · rw [m2, bnd_s, o3, bnd_s]
/-- else -/
theorem c_else {kk : Int} (h6 : τ 118 6 = ((j + 1 : Nat) : Int)) (hj : j < 6) (h7 : τ 119 7 = (n : Int)) (hn : n < 511) (hp : τ 128 j = (p : Int)) (hpn : p < n) (hk : (τ 127 j = 9 ∧ kk = 32) ∨ (τ 127 j = 15 ∧ kk = 33)) :
    ∃ τ1, m_X4_elseOfBlock τ = (m_X4_accept 4 τ1).bind (fun r => some (r.1, r.2)) ∧ (∀ i k, ¬ ((120 ≤ i ∧ i ≤ 124) ∧ k = n) → ¬ (i = 124 ∧ k = p) → ¬ (i = 119 ∧ k = 7) → ¬ ((i = 127 ∨ i = 128) ∧ k = j) → τ1 i k = τ i k) ∧ τ1 120 n = kk ∧ τ1 124 p = ((n + 1 : Nat) : Int) ∧ τ1 119 7 = ((n + 1 : Nat) : Int) ∧ τ1 127 j = 4 ∧ τ1 128 j = (n : Int) := by
  obtain ⟨τ2, a2, s1, ⟨v1, v2, v3, v4, v5⟩, s7⟩ := cadd_sp (k := kk) (v := 0) (w := 0) (τ := τ) (n := n) h7 (by omega)
  have am := caim (T := ((n + 1 : Nat) : Int)) (p := p) s7 (by omega) (by omega)
  have hw6 : wr (τ 118 6 - 1) = (j : Int) := by rw [h6, wr_id' (by omega) (by omega)]; omega
  have hJ : m_X4_elseOfBlock_J67 τ (j : Int) kk = (m_X4_accept 4 (up (up (up τ2 124 p ((n + 1 : Nat) : Int)) 127 j 4) 128 j (n : Int))).bind (fun r => some (r.1, r.2)) := by
    rw [m_X4_elseOfBlock_J67, a2, bnd_s]
    show ((rd τ2 128 6 (j : Int)).bind fun x20 => (m_X5_aim 119 x20 (τ2 119 7) τ2).bind fun σ22 => (wt σ22 127 6 (j : Int) 4).bind fun σ23 => (wt σ23 128 6 (j : Int) (n : Int)).bind fun σ24 => (m_X4_accept 4 σ24).bind fun (x25, σ26) => some (x25, σ26)) = _
    rw [rd_ok (by omega) (by omega), bnd_s, Int.toNat_natCast, s1 _ _ (by omega) (by omega), hp, s7, am, bnd_s, wt_ok (by omega) (by omega), bnd_s, Int.toNat_natCast, wt_ok (by omega) (by omega), bnd_s, Int.toNat_natCast]
  have hJ45 : m_X4_elseOfBlock_J45 τ (j : Int) = m_X4_elseOfBlock_J67 τ (j : Int) kk := by
    rw [m_X4_elseOfBlock_J45, rd_ok (by omega) (by omega), bnd_s, Int.toNat_natCast]
    rcases hk with ⟨q1, q2⟩ | ⟨q1, q2⟩
    · rw [if_neg (by omega), q2]
    · rw [if_pos q1, q2]
  refine ⟨up (up (up τ2 124 p ((n + 1 : Nat) : Int)) 127 j 4) 128 j (n : Int), ?_, fun i k n1 n2 n3 n4 => ?_, ?_, ?_, ?_, ?_, up_eq ..⟩
  · rw [m_X4_elseOfBlock, hw6, vl, bnd_s, if_neg (by omega), if_neg (by omega), rd_ok (by omega) (by omega), bnd_s, Int.toNat_natCast, bnd_s, hJ45, hJ]
    rcases hk with ⟨q1, q2⟩ | ⟨q1, q2⟩
    · rw [if_pos q1]
    · rw [if_neg (by omega), if_pos q1]
  · have : (up (up (up τ2 124 p ((n + 1 : Nat) : Int)) 127 j 4) 128 j (n : Int)) i k = τ2 i k := by
      unfold up
      rw [if_neg (by omega), if_neg (by omega), if_neg (by omega)]
    rw [this]; exact s1 i k n1 n3
  · rw [up_cell (by decide), up_cell (by decide), up_cell (by decide)]; exact v1
  · rw [up_cell (by decide), up_cell (by decide), up_eq]
  · rw [up_cell (by decide), up_cell (by decide), up_cell (by decide)]; exact s7
  · rw [up_cell (by decide), up_eq]
theorem m_else {i0 w : Nat} {s : Int} (h27 : τm 170 27 = ((j + 2 : Nat) : Int)) (hj : j < 6) (h22 : τm 170 22 = (i0 : Int)) (hi : i0 < 1999) (ha : τm 186 (j + 1) = (a : Int)) (ha2 : a < i0) (hs : τm 185 (j + 1) = s) (hss : (s = 2 ∧ w = 1) ∨ (s = 3 ∧ w = 2)) :
    ∃ τ1, m_X12_turnsElse τm = some τ1 ∧ (∀ k i, ¬ (k = 170 ∧ i = 22) → ¬ ((181 ≤ k ∧ k ≤ 184) ∧ i0 ≤ i ∧ i < i0 + w) → ¬ (k = 184 ∧ i = a) → ¬ ((k = 185 ∨ k = 186) ∧ i = j + 1) → τ1 k i = τm k i) ∧ (s = 2 → τ1 181 i0 = 15) ∧ (s = 3 → τ1 181 i0 = 17 ∧ τ1 181 (i0 + 1) = 15) ∧ τ1 184 a = ((i0 + w : Nat) : Int) ∧ τ1 170 22 = ((i0 + w : Nat) : Int) ∧ τ1 185 (j + 1) = 4 ∧ τ1 186 (j + 1) = ((i0 + w - 1 : Nat) : Int) := by
  have hw : wr (τm 170 27 - 1) = ((j + 1 : Nat) : Int) := by rw [h27, wr_id' (by omega) (by omega)]; omega
  have tail : ∀ (τx : St) (i1 : Nat), i1 < 2000 → i0 ≤ i1 → τx 170 22 = (i1 : Int) → τx 186 (j + 1) = (a : Int) → ∃ τ1, m_X12_turnsElse_J26 ((j + 1 : Nat) : Int) τx = some τ1 ∧ (∀ k i, ¬ (k = 170 ∧ i = 22) → ¬ ((181 ≤ k ∧ k ≤ 184) ∧ i = i1) → ¬ (k = 184 ∧ i = a) → ¬ ((k = 185 ∨ k = 186) ∧ i = j + 1) → τ1 k i = τx k i) ∧ τ1 181 i1 = 15 ∧ τ1 184 a = ((i1 + 1 : Nat) : Int) ∧ τ1 170 22 = ((i1 + 1 : Nat) : Int) ∧ τ1 185 (j + 1) = 4 ∧ τ1 186 (j + 1) = (i1 : Int) := by
    intro τx i1 hi1 hi01 hx22 hxa
    obtain ⟨τ2, o2, r1, ⟨r2, -⟩, r3⟩ := emit_sp (o := 15) (a := 0) (b := 0) (d := 0) hx22 hi1
    refine ⟨up (up (up τ2 184 a ((i1 + 1 : Nat) : Int)) 185 (j + 1) 4) 186 (j + 1) (i1 : Int), ?_, fun k i n1 n2 n3 n4 => ?_, ?_, ?_, ?_, ?_, up_eq ..⟩
    · rw [m_X12_turnsElse_J26, o2, bnd_s, rd_ok (by omega) (by omega), bnd_s, Int.toNat_natCast, r1 _ _ (by omega) (by omega), hxa, r3, wt_ok (by omega) (by omega), bnd_s, Int.toNat_natCast, wt_ok (by omega) (by omega), bnd_s, Int.toNat_natCast, up_cell (k' := 170) (by decide), up_cell (k' := 170) (by decide), r3, wr_id' (by omega) (by omega), wt_ok (by omega) (by omega), bnd_s, Int.toNat_natCast, show ((i1 + 1 : Nat) : Int) - 1 = (i1 : Int) by omega]
    · have : (up (up (up τ2 184 a ((i1 + 1 : Nat) : Int)) 185 (j + 1) 4) 186 (j + 1) (i1 : Int)) k i = τ2 k i := by
        unfold up
        rw [if_neg (by omega), if_neg (by omega), if_neg (by omega)]
      rw [this]; exact r1 k i n2 (by omega)
    · rw [up_cell (by decide), up_cell (by decide), up_cell (by decide)]; exact r2
    · rw [up_cell (by decide), up_cell (by decide), up_eq]
    · rw [up_cell (by decide), up_cell (by decide), up_cell (by decide)]; exact r3
    · rw [up_cell (by decide), up_eq]
  rcases hss with ⟨q1, q2⟩ | ⟨q1, q2⟩
  · obtain ⟨τ1, o1, f1, e1, e2, e3, e4, e5⟩ := tail τm i0 (by omega) (Nat.le_refl _) h22 ha
    subst q2
    refine ⟨τ1, ?_, fun k i n1 n2 n3 n4 => f1 k i n1 (by omega) n3 n4, fun _ => e1, fun q => by omega, e2, e3, e4, by rw [e5]; rfl⟩
    rw [m_X12_turnsElse, hw, vl, bnd_s, rd_ok (by omega) (by omega), bnd_s, Int.toNat_natCast, hs, if_neg (by omega), o1]
  · subst q2
    obtain ⟨τ2, o2, r1, ⟨r2, -⟩, r3⟩ := emit_sp (o := 17) (a := 0) (b := 0) (d := 0) h22 (by omega)
    obtain ⟨τ1, o1, f1, e1, e2, e3, e4, e5⟩ := tail τ2 (i0 + 1) (by omega) (by omega) r3 (by rw [r1 _ _ (by omega) (by omega)]; exact ha)
    refine ⟨τ1, ?_, fun k i n1 n2 n3 n4 => (f1 k i n1 (by omega) n3 n4).trans (r1 k i (by omega) n1), fun q => by omega, fun _ => ⟨?_, e1⟩, e2, e3, e4, by rw [e5]; rfl⟩
    · rw [m_X12_turnsElse, hw, vl, bnd_s, rd_ok (by omega) (by omega), bnd_s, Int.toNat_natCast, hs, if_pos q1, o2, bnd_s, o1]
    · rw [f1 _ _ (by omega) (by omega) (by omega) (by omega)]; exact r2
theorem else_rd (hT : TF K P D NL) (h : IX K P D NL S t n m c nb τ τm) (hk : K t = 4) : ∃ x τ' τm', m_X4_elseOfBlock τ = some (x, τ') ∧ m_X12_tellDeed τm = some τm' ∧ DOut K P D NL S t τ τm x τ' τm' := by
  have h0 := h
  obtain ⟨hj, ⟨g1, g2⟩, ⟨u1, ⟨u2, u3⟩, ⟨u4, u5⟩, ⟨u6, u7, u8⟩, ⟨u9, u10, u11⟩, u12, u13⟩, hB, hN, hD⟩ := h
  have ht5 := hj.1.1.2
  -- no if, no meet stands open
  have bad : m_X4_elseOfBlock τ = (m_X4_fail 1 τ).bind (fun r => some (r.1, r.2)) → (τm 185 nb ≠ 2 ∧ τm 185 nb ≠ 3) → ∃ x τ' τm', m_X4_elseOfBlock τ = some (x, τ') ∧ m_X12_tellDeed τm = some τm' ∧ DOut K P D NL S t τ τm x τ' τm' := by
    intro e1 e2
    obtain ⟨τ', τm', a1, b1, fl, f1, e1'⟩ := jfail hj.1 (e := 1) (Or.inl rfl)
    have fl0 := fl
    obtain ⟨e, t', he, -, -, he2, -⟩ := fl
    refine ⟨0, τ', τm', ?_, md_bad hT hj (ix_md h0) (by omega) (Or.inr e2) (by rw [hk]; decide) b1 (by omega), FrCp_cur f1, FrS_cur e1', Or.inl ⟨rfl, fl0⟩⟩
    rw [e1, a1, bnd_s]
  by_cases hz : nb = 0
  · subst hz
    refine bad ?_ (by omega)
    have hw6 : wr (τ 118 6 - 1) = -1 := by rw [u9]; decide
    rw [m_X4_elseOfBlock, hw6, vl, bnd_s, if_pos (by decide)]
  · obtain ⟨j, rfl⟩ : ∃ j, nb = j + 1 := ⟨nb - 1, by omega⟩
    obtain ⟨bk, p, a, b1, b2, b3, b4, b5⟩ := hB j (Nat.lt_succ_self j)
    by_cases hkd : τ 127 j = 9 ∨ τ 127 j = 15
    · obtain ⟨kk, w, hkk, hss, hww⟩ : ∃ (kk : Int) (w : Nat), ((τ 127 j = 9 ∧ kk = 32) ∨ (τ 127 j = 15 ∧ kk = 33)) ∧ ((τm 185 (j + 1) = 2 ∧ w = 1) ∨ (τm 185 (j + 1) = 3 ∧ w = 2)) ∧ ((τ 127 j = 9 ∧ w = 1) ∨ (τ 127 j = 15 ∧ w = 2)) := by
        rcases hkd with q | q
        · exact ⟨32, 1, Or.inl ⟨q, rfl⟩, Or.inl ⟨by omega, rfl⟩, Or.inl ⟨q, rfl⟩⟩
        · exact ⟨33, 2, Or.inr ⟨q, rfl⟩, Or.inr ⟨by omega, rfl⟩, Or.inr ⟨q, rfl⟩⟩
      obtain ⟨τ1, o1, f1, v1, v3, v4, v5, v6⟩ := c_else u9 (by omega) u2 (by omega) b1 b2 hkk
      have j1 : JT K P D NL t τ1 τm := jt_cg hj (fun i k q => f1 i k (by omega) (by omega) (by omega) (by omega)) (fun _ _ _ => rfl)
      rw [o1, md_else hT hj (ix_md h0) hk (by omega)]
      have mend : ∀ τx, CurM τm τx → ∃ τ1, m_X12_turnsElse τx = some τ1 ∧ (∀ k i, ¬ (k = 170 ∧ i = 22) → ¬ ((181 ≤ k ∧ k ≤ 184) ∧ 1000 * S + m ≤ i ∧ i < 1000 * S + m + w) → ¬ (k = 184 ∧ i = a) → ¬ ((k = 185 ∨ k = 186) ∧ i = j + 1) → τ1 k i = τx k i) ∧ (τm 185 (j + 1) = 2 → τ1 181 (1000 * S + m) = 15) ∧ (τm 185 (j + 1) = 3 → τ1 181 (1000 * S + m) = 17 ∧ τ1 181 (1000 * S + m + 1) = 15) ∧ τ1 184 a = ((1000 * S + m + w : Nat) : Int) ∧ τ1 170 22 = ((1000 * S + m + w : Nat) : Int) ∧ τ1 185 (j + 1) = 4 ∧ τ1 186 (j + 1) = ((1000 * S + m + w - 1 : Nat) : Int) := by
        intro τx hx
        exact m_else (by rw [hx _ _ (by omega)]; exact u11) (by omega) (by rw [hx _ _ (by omega)]; exact u4) (by omega) (by rw [hx _ _ (by omega)]; exact b3) (by omega) (hx _ _ (by omega)) hss
      rcases jnextT j1 hk (by decide) with ⟨g0, τ2, τ2m, a2, m2, j2, f2, e2, l2, z2⟩ | ⟨τ2, τ2m, a2, m2, fl, f2, e2⟩
      · obtain ⟨τ3m, o3, f3, w1, w2, w3, w4, w5, w6⟩ := mend τ2m e2
        have cfr : ∀ i k, ¬ (i = 118 ∧ (k = 1 ∨ k = 2 ∨ (8 ≤ k ∧ k ≤ 14))) → ¬ ((120 ≤ i ∧ i ≤ 124) ∧ k = n) → ¬ (i = 124 ∧ k = p) → ¬ (i = 119 ∧ k = 7) → ¬ ((i = 127 ∨ i = 128) ∧ k = j) → τ2 i k = τ i k := fun i k n1 n2 n3 n4 n5 => (f2 i k (by omega)).trans (f1 i k n2 n3 n4 n5)
        have mfr : ∀ k i, ¬ (k = 170 ∧ ((11 ≤ i ∧ i ≤ 15) ∨ i = 22)) → ¬ ((181 ≤ k ∧ k ≤ 184) ∧ 1000 * S + m ≤ i ∧ i < 1000 * S + m + w) → ¬ (k = 184 ∧ i = a) → ¬ ((k = 185 ∨ k = 186) ∧ i = j + 1) → τ3m k i = τm k i := fun k i n1 n2 n3 n4 => (f3 k i (by omega) n2 n3 n4).trans (e2 k i (by omega))
        refine ⟨1, τ2, τ3m, ?_, ?_, fun i k q => cfr i k (by omega) (by omega) (by omega) (by omega) (by omega), fun k i n1 n2 n3 n4 n5 => mfr k i (by omega) (by omega) (by omega) (by omega), Or.inr ⟨rfl, t + 1, by omega, Or.inl ⟨n + 1, m + w, c, j + 1, ?_⟩⟩⟩
        · rw [a2, bnd_s]
        · rw [m2, bnd_s, o3, bnd_s]
        · refine ix_blk h0 (jt_cg j2 (fun _ _ _ => rfl) (fun k i q => f3 k i (by omega) (by omega) (by omega) (by omega))) (Nat.le_refl _) (by rw [z2, f1 _ _ (by omega) (by omega) (by omega) (by omega)]; exact g1) (fun i k n1 n2 n3 n4 => cfr i k (by omega) (by omega) (by omega) n3 (by omega)) (fun k i n1 n2 n3 => mfr k i (by omega) (by omega) (by omega) (by omega)) ⟨by rw [f2 _ _ (by omega)]; exact v4, by omega, by omega⟩ ⟨by rw [w4, Nat.add_assoc], by omega, by omega⟩ ⟨by omega, by rw [cfr _ _ (by omega) (by omega) (by omega) (by omega) (by omega)]; exact u9, by rw [mfr _ _ (by omega) (by omega) (by omega) (by omega)]; exact u11, Or.inr rfl⟩ (fun _ => ⟨⟨?_, w5⟩, ?_, rfl, _, w6, by omega, by omega⟩) (fun q => ?_)
          · rw [f2 _ _ (by omega)]; exact v5
          · rw [f2 _ _ (by omega)]; exact v6
          · obtain ⟨f, cx, cd, hP, hQ⟩ := hD (by rw [← f1 118 8 (by omega) (by omega) (by omega) (by omega), ← l2]; exact q)
            refine turn_else hP hQ (by omega) hww b1 b3 (fun i k i1 i2 i3 i4 => cfr i k (by omega) (by omega) i4 (by omega) (by omega)) (fun i hi => ⟨cfr _ _ (by omega) (by omega) (by omega) (by omega) (by omega), cfr _ _ (by omega) (by omega) (by omega) (by omega) (by omega), mfr _ _ (by omega) (by omega) (by omega) (by omega)⟩) (funext fun i => cfr _ _ (by omega) (by omega) (by omega) (by omega) (by omega)) (funext fun i => mfr _ _ (by omega) (by omega) (by omega) (by omega)) (fun k i i1 i2 i3 i4 => mfr k i (by omega) (by omega) i4 (by omega)) ?_ ?_ w6 (fun q => ⟨?_, w1 (by omega)⟩) (fun q => ⟨?_, w2 (by omega)⟩) ?_ w3
            · rw [f2 _ _ (by omega)]; exact v5
            · rw [f2 _ _ (by omega)]; exact v6
            · rw [f2 _ _ (by omega), v1]; omega
            · rw [f2 _ _ (by omega), v1]; omega
            · rw [f2 _ _ (by omega)]; exact v3
      · obtain ⟨τ3m, o3, f3, -⟩ := mend τ2m e2
        refine ⟨0, τ2, τ3m, ?_, ?_, fun i k q => (f2 i k (by omega)).trans (f1 i k (by omega) (by omega) (by omega) (by omega)), fun k i n1 n2 n3 n4 n5 => (f3 k i (by omega) (by omega) (by omega) (by omega)).trans (e2 k i (by omega)), Or.inl ⟨rfl, fl_cg fl (fun _ _ => rfl) (fun i i1 i2 => f3 170 i (by omega) (by omega) (by omega) (by omega))⟩⟩
        · rw [a2, bnd_s]
        · rw [m2, bnd_s, o3, bnd_s]
    · refine bad ?_ (by omega)
      have hw6 : wr (τ 118 6 - 1) = (j : Int) := by rw [u9, wr_id' (by omega) (by omega)]; omega
      rw [m_X4_elseOfBlock, hw6, vl, bnd_s, if_neg (by omega), if_neg (by omega), rd_ok (by omega) (by omega), bnd_s, Int.toNat_natCast, if_neg (by omega), bnd_s, if_neg (by omega)]
/-- any deed, or an end -/
theorem deed_rd (hT : TF K P D NL) (h : IX K P D NL S t n m c nb τ τm) : ∃ x τ' τm', m_X4_deedOrEnd τ = some (x, τ') ∧ m_X12_tellDeed τm = some τm' ∧ DOut K P D NL S t τ τm x τ' τm' := by
  have c11 : τ 118 11 = K t := h.1.1.2.2.1.2.1
  have hK := hT.1 t
  have fin : ∀ o : Option (Int × St), m_X4_deedOrEnd τ = o.bind (fun r => some (r.1, r.2)) → (∃ x τ' τm', o = some (x, τ') ∧ m_X12_tellDeed τm = some τm' ∧ DOut K P D NL S t τ τm x τ' τm') → ∃ x τ' τm', m_X4_deedOrEnd τ = some (x, τ') ∧ m_X12_tellDeed τm = some τm' ∧ DOut K P D NL S t τ τm x τ' τm' := by
    rintro o ho ⟨x, τ', τm', q1, q2⟩
    exact ⟨x, τ', τm', by rw [ho, q1, bnd_s], q2⟩
  by_cases k0 : K t = 0
  · exact abort_sp hT h k0
  by_cases k1 : K t = 1
  · exact fin _ (by rw [m_X4_deedOrEnd, c11, if_neg k0, if_pos k1]) (plain_sp (k := 1) (o := 8) (z := 7) hT h (by unfold PlT; omega) k1)
  by_cases k3 : K t = 3
  · exact fin _ (by rw [m_X4_deedOrEnd, c11, if_neg k0, if_neg k1, if_pos k3]) (do_sp hT h k3)
  by_cases k4 : K t = 4
  · exact fin _ (by rw [m_X4_deedOrEnd, c11, if_neg k0, if_neg k1, if_neg k3, if_pos k4]) (else_rd hT h k4)
  by_cases k5 : K t = 5
  · refine fin (m_X4_endOfBlock τ) (by rw [m_X4_deedOrEnd, c11, if_neg k0, if_neg k1, if_neg k3, if_neg k4, if_pos k5]) ?_
    by_cases hz : nb = 0
    · subst hz; exact end_code hT h k5
    · obtain ⟨j, rfl⟩ : ∃ j, nb = j + 1 := ⟨nb - 1, by omega⟩
      obtain ⟨bk, -⟩ := h.2.2.2.1 j (Nat.lt_succ_self j)
      by_cases hkd : τ 127 j = 13 ∨ τ 127 j = 15
      · exact end_push hT h k5 hkd
      · exact end_if hT h k5 (by omega)
  by_cases k7 : K t = 7
  · exact fin _ (by rw [m_X4_deedOrEnd, c11, if_neg k0, if_neg k1, if_neg k3, if_neg k4, if_neg k5, if_pos k7]) (plain_sp (k := 7) (o := 0) (z := 9) hT h (by unfold PlT; omega) k7)
  by_cases k9 : K t = 9
  · exact fin _ (by rw [m_X4_deedOrEnd, c11, if_neg k0, if_neg k1, if_neg k3, if_neg k4, if_neg k5, if_neg k7, if_pos k9]) (if_rd hT h k9)
  by_cases k12 : K t = 12
  · exact fin _ (by rw [m_X4_deedOrEnd, c11, if_neg k0, if_neg k1, if_neg k3, if_neg k4, if_neg k5, if_neg k7, if_neg k9, if_pos k12]) (plain_sp (k := 12) (o := 6) (z := 7) hT h (by unfold PlT; omega) k12)
  by_cases k13 : K t = 13
  · exact fin _ (by rw [m_X4_deedOrEnd, c11, if_neg k0, if_neg k1, if_neg k3, if_neg k4, if_neg k5, if_neg k7, if_neg k9, if_neg k12, if_pos k13]) (loopH_sp hT h k13)
  by_cases k14 : K t = 14
  · exact fin _ (by rw [m_X4_deedOrEnd, c11, if_neg k0, if_neg k1, if_neg k3, if_neg k4, if_neg k5, if_neg k7, if_neg k9, if_neg k12, if_neg k13, if_pos k14]) (plain_sp (k := 14) (o := 3) (z := 3) hT h (by unfold PlT; omega) k14)
  by_cases k15 : K t = 15
  · exact fin _ (by rw [m_X4_deedOrEnd, c11, if_neg k0, if_neg k1, if_neg k3, if_neg k4, if_neg k5, if_neg k7, if_neg k9, if_neg k12, if_neg k13, if_neg k14, if_pos k15]) (meet_rd hT h k15)
  by_cases k18 : K t = 18
  · exact fin _ (by rw [m_X4_deedOrEnd, c11, if_neg k0, if_neg k1, if_neg k3, if_neg k4, if_neg k5, if_neg k7, if_neg k9, if_neg k12, if_neg k13, if_neg k14, if_neg k15, if_pos k18]) (plain_sp (k := 18) (o := 7) (z := 7) hT h (by unfold PlT; omega) k18)
  by_cases k19 : K t = 19
  · exact fin _ (by rw [m_X4_deedOrEnd, c11, if_neg k0, if_neg k1, if_neg k3, if_neg k4, if_neg k5, if_neg k7, if_neg k9, if_neg k12, if_neg k13, if_neg k14, if_neg k15, if_neg k18, if_pos k19]) (plain_sp (k := 19) (o := 9) (z := 7) hT h (by unfold PlT; omega) k19)
  by_cases k20 : K t = 20
  · exact fin _ (by rw [m_X4_deedOrEnd, c11, if_neg k0, if_neg k1, if_neg k3, if_neg k4, if_neg k5, if_neg k7, if_neg k9, if_neg k12, if_neg k13, if_neg k14, if_neg k15, if_neg k18, if_neg k19, if_pos k20]) (plain_sp (k := 20) (o := 2) (z := 95) hT h (by unfold PlT; omega) k20)
  by_cases k21 : K t = 21
  · exact fin _ (by rw [m_X4_deedOrEnd, c11, if_neg k0, if_neg k1, if_neg k3, if_neg k4, if_neg k5, if_neg k7, if_neg k9, if_neg k12, if_neg k13, if_neg k14, if_neg k15, if_neg k18, if_neg k19, if_neg k20, if_pos k21]) (plain_sp (k := 21) (o := 1) (z := 95) hT h (by unfold PlT; omega) k21)
  by_cases k23 : K t = 23
  · exact fin _ (by rw [m_X4_deedOrEnd, c11, if_neg k0, if_neg k1, if_neg k3, if_neg k4, if_neg k5, if_neg k7, if_neg k9, if_neg k12, if_neg k13, if_neg k14, if_neg k15, if_neg k18, if_neg k19, if_neg k20, if_neg k21, if_pos k23]) (plain_sp (k := 23) (o := 4) (z := 3) hT h (by unfold PlT; omega) k23)
  by_cases k25 : K t = 25
  · exact fin _ (by rw [m_X4_deedOrEnd, c11, if_neg k0, if_neg k1, if_neg k3, if_neg k4, if_neg k5, if_neg k7, if_neg k9, if_neg k12, if_neg k13, if_neg k14, if_neg k15, if_neg k18, if_neg k19, if_neg k20, if_neg k21, if_neg k23, if_pos k25]) (plain_sp (k := 25) (o := 5) (z := 7) hT h (by unfold PlT; omega) k25)
  obtain ⟨τ', τm', a1, b1, fl, f1, e1⟩ := jfail h.1.1 (e := 1) (Or.inl rfl)
  have fl0 := fl
  obtain ⟨e, t', he, -, -, he2, -⟩ := fl
  have hmk : ¬ (22 ≤ MK (K t) ∧ MK (K t) ≤ 33) := by
    have key : ∀ a : Fin 31, (22 ≤ KML.getD a.val 0 ∧ KML.getD a.val 0 ≤ 33) → a.val ∈ [0, 1, 3, 7, 12, 14, 18, 19, 20, 21, 23, 25] := by decide +kernel
    intro hm
    have hin := key ⟨(K t).toNat, by omega⟩ hm
    simp only [List.mem_cons, List.not_mem_nil, or_false] at hin
    omega
  refine ⟨0, τ', τm', ?_, md_bad hT h.1 (ix_md h) ⟨k13, k9, k15, k5⟩ (Or.inl k4) hmk b1 (by omega), FrCp_cur f1, FrS_cur e1, Or.inl ⟨rfl, fl0⟩⟩
  rw [m_X4_deedOrEnd, c11, if_neg k0, if_neg k1, if_neg k3, if_neg k4, if_neg k5, if_neg k7, if_neg k9, if_neg k12, if_neg k13, if_neg k14, if_neg k15, if_neg k18, if_neg k19, if_neg k20, if_neg k21, if_neg k23, if_neg k25, a1, bnd_s]
end
