/-! the model's deeds, by kind; what they do once a fault is found -/
def tailX (x2 : Int) (σ : St) : Option St := (if x2 = 34 then (m_X12_number 95 σ).bind fun (x56, σ57) => (m_X12_opens 1 12 x56 0 σ57).bind fun σ58 => some σ58 else (if x2 = 35 then (m_X12_tellTest σ).bind fun σ55 => some σ55 else (if x2 = 37 then (m_X12_number 7 σ).bind fun (x49, σ50) => (m_X12_must 38 σ50).bind fun σ51 => (m_X12_number 95 σ51).bind fun (x52, σ53) => (m_X12_opens 3 16 x49 x52 σ53).bind fun σ54 => some σ54 else (m_X12_tellPlain x2 σ).bind fun σ48 => some σ48)))
section
variable {K : Nat → Int} {P : Nat → Nat} {D : Nat → Int} {NL : Nat → List Int} {t : Nat} {τ τm τ' τm' : St}
theorem ftest (h : Fl P τ τm) : ∃ τm', m_X12_tellTest τm = some τm' ∧ Fl P τ τm' ∧ CurM τm τm' := by
  obtain ⟨τ1, n1, n2, n3⟩ := fnext h
  have hl : lp (fun a => m_X12_tellTest_L2 a.1 a.2) (0, τm) = some (0, τm) := by
    unfold lp FU lpN
    simp only [m_X12_tellTest_L2, fis h]
    rfl
  have h0 := h
  obtain ⟨e, t, he, -, -, h1, -, t', h2, h3⟩ := h0
  have hJ : ∀ x14 : Int, ∃ τm', m_X12_tellTest_J74 x14 0 τm = some τm' ∧ Fl P τ τm' ∧ CurM τm τm' := by
    intro x14
    have hK : ∀ v : Int, m_X12_tellTest_J113 x14 0 v τ1 = some τ1 := fun v => by rw [m_X12_tellTest_J113, fopens n2, bnd_s]
    refine ⟨τ1, ?_, n2, n3⟩
    rw [m_X12_tellTest_J74, n1, bnd_s]
    obtain ⟨v3, g3⟩ := fnum n2 (z := 3)
    obtain ⟨v95, g95⟩ := fnum n2 (z := 95)
    obtain ⟨v7, g7⟩ := fnum n2 (z := 7)
    rw [g3, g95, g7, bnd_s, bnd_s, bnd_s]
    by_cases c1 : 6 ≤ x14
    · rw [if_pos c1]; exact hK _
    · rw [if_neg c1]
      by_cases c2 : x14 = 0
      · rw [if_pos c2]; exact hK _
      · rw [if_neg c2]
        by_cases c3 : x14 = 5
        · rw [if_pos c3]; exact hK _
        · rw [if_neg c3]; exact hK _
  obtain ⟨τ2, j1, j2⟩ := hJ (wr (wr (τm 173 t' - 40) + 1))
  refine ⟨τ2, ?_, j2⟩
  rw [m_X12_tellTest, hl, bnd_s]
  show ((rd τm 173 503 (τm 170 11)).bind fun x11 => (m_X12_is 25 τm).bind fun x12 => (if x12 = 0 then m_X12_tellTest_J51 τm 0 (wr (wr (x11 - 40) + 1)) else m_X12_tellTest_J51 τm 0 0)) = _
  rw [h2, rd_ok (by omega) (by omega), bnd_s, Int.toNat_natCast, fis h, bnd_s, if_pos rfl, m_X12_tellTest_J51, if_neg (by omega)]
  exact j1
theorem fplain (h : Fl P τ τm) {x2 : Int} : m_X12_tellPlain x2 τm = some τm := by
  have h0 := h
  obtain ⟨e, t, he, -, -, h1, -, t', h2, h3⟩ := h0
  have hJ : ∀ v : Int, m_X12_tellPlain_J151 x2 v τm = some τm := fun v => by rw [m_X12_tellPlain_J151, fmust h, bnd_s, if_neg (by omega)]
  obtain ⟨v3, g3⟩ := fnum h (z := 3)
  obtain ⟨v95, g95⟩ := fnum h (z := 95)
  obtain ⟨v7, g7⟩ := fnum h (z := 7)
  obtain ⟨v9, g9⟩ := fnum h (z := 9)
  rw [m_X12_tellPlain, fmust h, bnd_s, fmust h, bnd_s, g3, g95, g7, g9, bnd_s, bnd_s, bnd_s, bnd_s]
  by_cases c1 : x2 = 33
  · rw [if_pos c1, if_neg (by omega)]
  · rw [if_neg c1]
    by_cases c2 : x2 = 32
    · rw [if_pos c2]; exact hJ _
    · rw [if_neg c2]
      by_cases c3 : x2 = 22
      · rw [if_pos c3]; exact hJ _
      · rw [if_neg c3]
        by_cases c4 : 25 ≤ x2
        · rw [if_pos c4]
          by_cases c5 : 27 ≤ x2
          · rw [if_pos c5]; exact hJ _
          · rw [if_neg c5]; exact hJ _
        · rw [if_neg c4]; exact hJ _
theorem ftail (h : Fl P τ τm) {x2 : Int} : ∃ τm', tailX x2 τm = some τm' ∧ Fl P τ τm' ∧ CurM τm τm' := by
  obtain ⟨v95, g95⟩ := fnum h (z := 95)
  obtain ⟨v7, g7⟩ := fnum h (z := 7)
  unfold tailX
  by_cases c1 : x2 = 34
  · exact ⟨τm, by rw [if_pos c1, g95, bnd_s]; show ((m_X12_opens 1 12 v95 0 τm).bind fun σ58 => some σ58) = _; rw [fopens h, bnd_s], h, CurM_rf⟩
  · rw [if_neg c1]
    by_cases c2 : x2 = 35
    · obtain ⟨τ1, k1, k2, k3⟩ := ftest h
      exact ⟨τ1, by rw [if_pos c2, k1, bnd_s], k2, k3⟩
    · rw [if_neg c2]
      by_cases c3 : x2 = 37
      · refine ⟨τm, ?_, h, CurM_rf⟩
        rw [if_pos c3, g7, bnd_s]
        show ((m_X12_must 38 τm).bind fun σ51 => (m_X12_number 95 σ51).bind fun (x52, σ53) => (m_X12_opens 3 16 v7 x52 σ53).bind fun σ54 => some σ54) = _
        rw [fmust h, bnd_s, g95, bnd_s]
        show ((m_X12_opens 3 16 v7 v95 τm).bind fun σ54 => some σ54) = _
        rw [fopens h, bnd_s]
      · exact ⟨τm, by rw [if_neg c3, fplain h, bnd_s], h, CurM_rf⟩
/-- where the model's deed stands -/
def MDt (nb : Nat) (τm : St) : Prop := nb ≤ 6 ∧ τm 170 27 = ((nb + 1 : Nat) : Int)
theorem md_end (hT : TF K P D NL) (h : JT K P D NL t τ τm) (hk : K t = 5) : m_X12_tellDeed τm = (m_X12_next τm).bind fun σ166 => (m_X12_ends σ166).bind fun σ167 => some σ167 := by
  obtain ⟨⟨⟨hv, ht⟩, ⟨hA, hM⟩, -, ⟨m1, m2⟩⟩, hl⟩ := id h
  obtain ⟨e1, -⟩ := hM t ht hv
  rw [m_X12_tellDeed, m1, rd_ok (by omega) (by omega), bnd_s, Int.toNat_natCast, mis hT h.1 (a := 5) (b := 21) (by decide) rfl, bnd_s, if_pos hk, if_neg (by decide)]
theorem md_else (hT : TF K P D NL) (h : JT K P D NL t τ τm) {nb : Nat} (hb : MDt nb τm) (hk : K t = 4) (hs : τm 185 nb = 2 ∨ τm 185 nb = 3) : m_X12_tellDeed τm = (m_X12_next τm).bind fun σ89 => (m_X12_turnsElse σ89).bind fun σ90 => some σ90 := by
  obtain ⟨⟨⟨hv, ht⟩, ⟨hA, hM⟩, -, ⟨m1, m2⟩⟩, hl⟩ := id h
  obtain ⟨e1, -⟩ := hM t ht hv
  obtain ⟨b1, b2⟩ := hb
  have hix : wr (τm 170 27 - 1) = (nb : Int) := by rw [b2, wr_id' (by omega) (by omega)]; omega
  have hJ : m_X12_tellDeed_J58 τm (τm 173 t) = (m_X12_next τm).bind fun σ89 => (m_X12_turnsElse σ89).bind fun σ90 => some σ90 := by
    rw [m_X12_tellDeed_J58, mis hT h.1 (a := 4) (b := 36) (by decide) rfl, bnd_s, if_pos hk, if_neg (by decide)]
  rw [m_X12_tellDeed, m1, rd_ok (by omega) (by omega), bnd_s, Int.toNat_natCast, mis hT h.1 (a := 5) (b := 21) (by decide) rfl, bnd_s, if_neg (show K t ≠ 5 by omega), if_pos rfl, hix, rd_ok (by omega) (by omega), bnd_s, Int.toNat_natCast, bnd_s, hJ]
  rcases hs with hs | hs
  · rw [if_pos hs]
  · rw [if_neg (by omega), if_pos hs]
theorem md_any (hT : TF K P D NL) (h : JT K P D NL t τ τm) {nb : Nat} (hb : MDt nb τm) (hk : K t ≠ 5) (hs : K t ≠ 4 ∨ (τm 185 nb ≠ 2 ∧ τm 185 nb ≠ 3)) : m_X12_tellDeed τm = m_X12_tellDeed_J86 τm (MK (K t)) := by
  obtain ⟨⟨⟨hv, ht⟩, ⟨hA, hM⟩, -, ⟨m1, m2⟩⟩, hl⟩ := id h
  obtain ⟨e1, -⟩ := hM t ht hv
  obtain ⟨b1, b2⟩ := hb
  have hix : wr (τm 170 27 - 1) = (nb : Int) := by rw [b2, wr_id' (by omega) (by omega)]; omega
  have h4 := mis hT h.1 (a := 4) (b := 36) (by decide) rfl
  have hJ : K t ≠ 4 → m_X12_tellDeed_J58 τm (MK (K t)) = m_X12_tellDeed_J86 τm (MK (K t)) := by
    intro q
    rw [m_X12_tellDeed_J58, h4, bnd_s, if_neg q, if_pos rfl]
    rfl
  rw [m_X12_tellDeed, m1, rd_ok (by omega) (by omega), bnd_s, Int.toNat_natCast, mis hT h.1 (a := 5) (b := 21) (by decide) rfl, bnd_s, if_neg hk, if_pos rfl, hix, rd_ok (by omega) (by omega), bnd_s, Int.toNat_natCast, bnd_s, e1, h4, bnd_s]
  by_cases c1 : τm 185 nb = 2
  · rw [if_pos c1]
    exact hJ (by omega)
  · rw [if_neg c1]
    by_cases c2 : τm 185 nb = 3
    · rw [if_pos c2]
      exact hJ (by omega)
    · rw [if_neg c2]
      split <;> rfl
theorem md_blk (hT : TF K P D NL) (h : JT K P D NL t τ τm) {nb : Nat} (hb : MDt nb τm) (hk : K t = 13 ∨ K t = 9 ∨ K t = 15) (h6 : nb < 6) : m_X12_tellDeed τm = (m_X12_next τm).bind (tailX (MK (K t))) := by
  obtain ⟨b1, b2⟩ := id hb
  have h12 : τm 170 12 = 0 := h.1.2.2.2.2
  have hJ : m_X12_tellDeed_J113 τm (MK (K t)) = (m_X12_next τm).bind (tailX (MK (K t))) := by
    rw [m_X12_tellDeed_J113, b2, if_neg (by omega), m_X12_tellDeed_J161, h12, if_pos (Int.le_refl _)]
    rfl
  rw [md_any hT h hb (by omega) (Or.inl (by omega)), m_X12_tellDeed_J86, mis hT h.1 (a := 13) (b := 34) (by decide) rfl, bnd_s]
  by_cases c1 : K t = 13
  · rw [if_pos c1, if_neg (by decide)]; exact hJ
  · rw [if_neg c1, if_pos rfl, mis hT h.1 (a := 9) (b := 35) (by decide) rfl, bnd_s]
    by_cases c2 : K t = 9
    · rw [if_pos c2, if_neg (by decide)]; exact hJ
    · rw [if_neg c2, if_pos rfl, mis hT h.1 (a := 15) (b := 37) (by decide) rfl, bnd_s, if_pos (show K t = 15 by omega), if_neg (by decide)]; exact hJ
theorem md_blk6 (hT : TF K P D NL) (h : JT K P D NL t τ τm) (hb : MDt 6 τm) (hk : K t = 13 ∨ K t = 9 ∨ K t = 15) {τf : St} (hf : m_X12_fail 2 τm = some τf) (hf2 : 0 < τf 170 12) : m_X12_tellDeed τm = some τf := by
  obtain ⟨b1, b2⟩ := id hb
  have hJ : m_X12_tellDeed_J113 τm (MK (K t)) = some τf := by
    rw [m_X12_tellDeed_J113, b2, if_pos (by omega), hf, bnd_s, m_X12_tellDeed_J161, if_neg (by omega)]
  rw [md_any hT h hb (by omega) (Or.inl (by omega)), m_X12_tellDeed_J86, mis hT h.1 (a := 13) (b := 34) (by decide) rfl, bnd_s]
  by_cases c1 : K t = 13
  · rw [if_pos c1, if_neg (by decide)]; exact hJ
  · rw [if_neg c1, if_pos rfl, mis hT h.1 (a := 9) (b := 35) (by decide) rfl, bnd_s]
    by_cases c2 : K t = 9
    · rw [if_pos c2, if_neg (by decide)]; exact hJ
    · rw [if_neg c2, if_pos rfl, mis hT h.1 (a := 15) (b := 37) (by decide) rfl, bnd_s, if_pos (show K t = 15 by omega), if_neg (by decide)]; exact hJ
theorem md_J86 (hT : TF K P D NL) (h : JT K P D NL t τ τm) (hk : K t ≠ 13 ∧ K t ≠ 9 ∧ K t ≠ 15) (x2 : Int) : m_X12_tellDeed_J86 τm x2 = (if x2 < 22 then m_X12_tellDeed_J135 τm x2 else (if x2 ≤ 33 then (m_X12_next τm).bind (tailX x2) else m_X12_tellDeed_J135 τm x2)) := by
  have h12 : τm 170 12 = 0 := h.1.2.2.2.2
  rw [m_X12_tellDeed_J86, mis hT h.1 (a := 13) (b := 34) (by decide) rfl, bnd_s, if_neg hk.1, if_pos rfl, mis hT h.1 (a := 9) (b := 35) (by decide) rfl, bnd_s, if_neg hk.2.1, if_pos rfl, mis hT h.1 (a := 15) (b := 37) (by decide) rfl, bnd_s, if_neg hk.2.2, if_pos rfl, h12, if_pos (Int.le_refl _)]
  rfl
theorem md_plain (hT : TF K P D NL) (h : JT K P D NL t τ τm) {nb : Nat} (hb : MDt nb τm) (hk : K t ≠ 13 ∧ K t ≠ 9 ∧ K t ≠ 15 ∧ K t ≠ 5 ∧ K t ≠ 4) (hm : 22 ≤ MK (K t) ∧ MK (K t) ≤ 33) : m_X12_tellDeed τm = (m_X12_next τm).bind (tailX (MK (K t))) := by
  rw [md_any hT h hb (by omega) (Or.inl (by omega)), md_J86 hT h ⟨hk.1, hk.2.1, hk.2.2.1⟩, if_neg (by omega), if_pos (by omega)]
theorem md_bad (hT : TF K P D NL) (h : JT K P D NL t τ τm) {nb : Nat} (hb : MDt nb τm) (hk : K t ≠ 13 ∧ K t ≠ 9 ∧ K t ≠ 15 ∧ K t ≠ 5) (hs : K t ≠ 4 ∨ (τm 185 nb ≠ 2 ∧ τm 185 nb ≠ 3)) (hm : ¬ (22 ≤ MK (K t) ∧ MK (K t) ≤ 33)) {τf : St} (hf : m_X12_fail 1 τm = some τf) (hf2 : 0 < τf 170 12) : m_X12_tellDeed τm = some τf := by
  have hJ : m_X12_tellDeed_J135 τm (MK (K t)) = some τf := by
    rw [m_X12_tellDeed_J135, hf, bnd_s, if_neg (by omega)]
  rw [md_any hT h hb (by omega) hs, md_J86 hT h ⟨hk.1, hk.2.1, hk.2.2.1⟩, hJ]
  by_cases c1 : MK (K t) < 22
  · rw [if_pos c1]
  · rw [if_neg c1, if_neg (by omega)]
end
