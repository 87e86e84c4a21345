/-! the class's scan -/
theorem cByte {σ : St} {n p : Nat} (hn : σ 16 0 = (n : Int)) (h2 : n ≤ 2000) : m_X9_byteAt (p : Int) σ = some (if p < n then σ 21 p else -1) := by
  rw [m_X9_byteAt, hn, if_neg (by omega)]
  by_cases h : p < n
  · rw [if_neg (by omega), if_neg (by omega), rd_ok (by omega) (by omega), bnd_s, Int.toNat_natCast, if_pos h]
  · rw [if_pos (by omega), if_neg h]
theorem cLet {c : Int} {σ : St} : m_X9_isLetter c σ = some (if isL c = true then 1 else 0) := by
  rw [m_X9_isLetter]
  by_cases h1 : c < 97
  · rw [if_pos h1, if_neg (by rw [isL_sp]; omega)]
  · rw [if_neg h1]
    by_cases h2 : 122 < c
    · rw [if_pos h2, if_neg (by rw [isL_sp]; omega)]
    · rw [if_neg h2, if_pos (by rw [isL_sp]; omega)]
theorem cDig {c : Int} {σ : St} : m_X9_isDigit c σ = some (if isD c = true then 1 else 0) := by
  rw [m_X9_isDigit]
  by_cases h1 : c < 48
  · rw [if_pos h1, if_neg (by rw [isD_sp]; omega)]
  · rw [if_neg h1]
    by_cases h2 : 57 < c
    · rw [if_pos h2, if_neg (by rw [isD_sp]; omega)]
    · rw [if_neg h2, if_pos (by rw [isD_sp]; omega)]
theorem cBla {c : Int} {σ : St} : m_X9_isBlank c σ = some (if isB c = true then 1 else 0) := by
  rw [m_X9_isBlank]
  by_cases h : isB c = true
  · rw [if_pos h]
    have h' := isB_sp.mp h
    by_cases h1 : c = 9
    · rw [if_pos h1]
    · rw [if_neg h1]
      by_cases h2 : c = 10
      · rw [if_pos h2]
      · rw [if_neg h2]
        by_cases h3 : c = 13
        · rw [if_pos h3]
        · rw [if_neg h3, if_pos (by omega)]
  · rw [if_neg h]
    have h' : ¬ (c = 9 ∨ c = 10 ∨ c = 13 ∨ c = 32) := fun q => h (isB_sp.mpr q)
    rw [if_neg (by omega), if_neg (by omega), if_neg (by omega), if_neg (by omega)]
def PREL : List (Int × Int) := [(0, 0), (1, 0), (34, 0), (1103, 0), (35314, 0), (1130068, 0), (0, 1), (2, 1), (85, 1), (2738, 1), (87630, 1), (0, 2), (3, 2), (111, 2), (3556, 2), (113797, 2), (0, 3), (4, 3), (143, 3), (0, 4), (5, 4), (172, 4), (5523, 4), (176741, 4), (0, 5), (5, 5), (174, 5), (5572, 5), (0, 6), (6, 6), (207, 6), (6642, 6), (0, 7), (7, 7), (239, 7), (0, 8), (8, 8), (257, 8), (8243, 8), (0, 9), (9, 9), (294, 9), (0, 10), (11, 10), (366, 10), (11727, 10), (375287, 10), (12009203, 10), (0, 11), (12, 11), (385, 11), (12340, 11), (394885, 11), (0, 12), (12, 12), (389, 12), (12449, 12), (398390, 12), (12748485, 12), (0, 13), (12, 13), (399, 13), (12783, 13), (409072, 13), (0, 14), (13, 14), (417, 14), (13362, 14), (427595, 14), (0, 15), (13, 15), (421, 15), (13477, 15), (431284, 15), (0, 16), (14, 16), (463, 16), (14836, 16), (0, 17), (16, 17), (513, 17), (16432, 17), (525829, 17), (16826546, 17), (0, 18), (20, 18), (641, 18), (20523, 18), (656741, 18), (0, 19), (20, 19), (645, 19), (20652, 19), (660876, 19), (0, 20), (20, 20), (649, 20), (20780, 20), (664972, 20), (0, 21), (23, 21), (737, 21), (23593, 21), (754996, 21), (0, 22), (23, 22), (737, 22), (23604, 22), (755331, 22), (24170600, 22), (773459205, 22), (24750694564, 22), (0, 23), (23, 23), (745, 23), (23856, 23), (763397, 23), (0, 24), (23, 24), (745, 24), (23860, 24), (763528, 24), (0, 25), (23, 25), (754, 25), (24137, 25), (772404, 25), (24716933, 25)]
theorem pre_ok : ∀ j : Fin 127, (chr (j.val : Int) = 32 → PREL.getD (j.val + 1) (0, 0) = (0, (PREL.getD j.val (0, 0)).2 + 1) ∧ W5.getD (PREL.getD j.val (0, 0)).2.toNat 0 = (PREL.getD j.val (0, 0)).1) ∧
  (chr (j.val : Int) ≠ 32 → PREL.getD (j.val + 1) (0, 0) = (orL (shlL (PREL.getD j.val (0, 0)).1 5) (wr (wr (chr (j.val : Int) - 97) + 1)), (PREL.getD j.val (0, 0)).2)) ∧ 0 ≤ (PREL.getD j.val (0, 0)).2 ∧ (PREL.getD j.val (0, 0)).2 < 26 := by decide +kernel
theorem wordOf_sp (x : Int) (σ : St) : m_X9_wordOf x σ = some (wrd x) := by
  have key : Hp (m_X9_wordOf x σ) (fun y => y = wrd x) := by
    rw [m_X9_wordOf, Hp_bind]
    refine Hp_up (fun j (z : Int × Int × Int) => z.2.2 = (j : Int) ∧ (z.1, z.2.1) = PREL.getD j (0, 0) ∧ ∀ w : Nat, (w : Int) < z.2.1 → W5.getD w 0 ≠ x) 0 127 (by omega) (by omega) ⟨rfl, rfl, fun w h => ?_⟩ ?_ ?_
    · have h' : (w : Int) < 0 := h
      omega
    · rintro j ⟨x2, x3, x4⟩ - hj ⟨e1, e2, e3⟩
      simp only at e1 e2 e3
      subst e1
      obtain ⟨p1, p2, p3, p4⟩ := pre_ok ⟨j, hj⟩
      simp only at p1 p2 p3 p4
      rw [← e2] at p1 p2 p3 p4
      simp only at p1 p2 p3 p4
      simp only [m_X9_wordOf_L8]
      rw [if_neg (by omega), rc, if_pos (by omega), bnd_s]
      by_cases hc : chr (j : Int) = 32
      · rw [if_pos hc]
        obtain ⟨q1, q2⟩ := p1 hc
        by_cases hz : lcI x2 x = 0
        · rw [if_pos hz, Hp_some, Lq_inr, Hp_some]
          have hx : x2 = x := lc0.mp hz
          rcases wrdF_sp W5 0 x with ⟨w, h1, h2, h3⟩ | ⟨h1, -⟩
          · have hw : (w : Int) = x3 := by
              have hle : x3 ≤ (w : Int) := by
                by_cases hlt : (w : Int) < x3
                · exact absurd h2 (e3 w hlt)
                · omega
              have h1' : w < 26 := h1
              have inj : ∀ a c : Fin 26, W5.getD a.val 0 = W5.getD c.val 0 → a.val = c.val := by decide +kernel
              have := inj ⟨w, h1'⟩ ⟨x3.toNat, by omega⟩ (by rw [h2, q2, hx])
              simp only at this
              omega
            show x3 = wrdF W5 0 x
            rw [h3, ← hw]; omega
          · exact absurd (q2.trans hx) (h1 x3.toNat (by show x3.toNat < 26; omega))
        · rw [if_neg hz, Hp_some, Lq_inl, nx1 (by omega), wr_id' (x := x3 + 1) (by omega) (by omega)]
          refine ⟨rfl, q1.symm, fun w hw => ?_⟩
          have hw' : (w : Int) < x3 + 1 := hw
          by_cases hwx : (w : Int) = x3
          · intro hq
            rw [← hwx, Int.toNat_natCast] at q2
            exact hz (lc0.mpr (q2.symm.trans hq))
          · exact e3 w (by omega)
      · rw [if_neg hc, m_X9_withLetter, bnd_s, Hp_some, Lq_inl, nx1 (by omega)]
        exact ⟨rfl, (p2 hc).symm, e3⟩
    · rintro ⟨x2, x3, x4⟩ ⟨e1, e2, e3⟩
      simp only at e1 e2 e3
      subst e1
      simp only [m_X9_wordOf_L8]
      rw [if_pos (by omega), Hp_some, Lq_inr]
      have l1 : PREL.getD 127 (0, 0) = (W5.getD 25 0, 25) := by decide +kernel
      rw [l1] at e2
      have e2a : x2 = W5.getD 25 0 := congrArg Prod.fst e2
      have e2b : x3 = 25 := congrArg Prod.snd e2
      simp only
      rcases wrdF_sp W5 0 x with ⟨w, h1, h2, h3⟩ | ⟨h1, h2⟩
      · have h1' : w < 26 := h1
        have hw : w = 25 := by
          by_cases hlt : (w : Int) < x3
          · exact absurd h2 (e3 w hlt)
          · omega
        rw [if_pos (lc0.mpr (by rw [e2a, ← hw, h2])), Hp_some, e2b]
        show 25 = wrdF W5 0 x
        rw [h3, hw]; rfl
      · rw [if_neg (fun q => h1 25 (by decide) (by rw [← e2a]; exact lc0.mp q)), Hp_some]
        show 26 = wrdF W5 0 x
        rw [h2]; rfl
  obtain ⟨y, h1, h2⟩ := key
  rw [h1, h2]
/-- the class's text -/
def CTx (b : Nat → Int) (n : Nat) (σ : St) : Prop := σ 16 0 = (n : Int) ∧ n ≤ 2000 ∧ (∀ p, p < n → σ 21 p = b p) ∧ ∀ p, p < n → 0 ≤ b p ∧ b p ≤ 255
theorem CTx_cg {b : Nat → Int} {n : Nat} {σ σ' : St} (h : CTx b n σ) (hw : Wr ([(17, 20), (118, 128)], [(16, 6)]) σ σ') : CTx b n σ' := by
  obtain ⟨h1, h2, h3, h4⟩ := h
  exact ⟨by rw [hw 16 0 rfl]; exact h1, h2, fun p hp => by rw [hw 21 p rfl]; exact h3 p hp, h4⟩
theorem cByte2 {b : Nat → Int} {σ : St} {n p : Nat} (h : CTx b n σ) : m_X9_byteAt (p : Int) σ = some (if p < n then b p else -1) := by
  rw [cByte h.1 h.2.1]
  by_cases hp : p < n
  · rw [if_pos hp, if_pos hp, h.2.2.1 p hp]
  · rw [if_neg hp, if_neg hp]
theorem scanL_sp {b : Nat → Int} {n s : Nat} {σ : St} (h : CTx b n σ) (hs : σ 16 6 = (s : Int)) (hsn : s ≤ n) : Hp (m_X9_scanLetters σ) (fun r => Wr ([], [(16, 6)]) σ r.2 ∧ r.2 16 6 = (en isL b n s : Int) ∧ (en isL b n s - s ≤ 8 → r.1 = nB 32 (lst b s (en isL b n s - s)))) := by
  have n2 := h.2.1
  obtain ⟨⟨g1, g2⟩, g3, g4⟩ := en_sp (P := isL) (b := b) hsn
  rw [m_X9_scanLetters, Hp_bind]
  simp only [Hp_some]
  refine Hp_up (fun j (z : Int × St) => Wr ([], [(16, 6)]) σ z.2 ∧ z.2 16 6 = ((s + j : Nat) : Int) ∧ (j ≤ 8 → z.1 = nB 32 (lst b s j))) 0 (en isL b n s - s) (by omega) (by omega) ⟨Wr_rf, hs, fun _ => rfl⟩ ?_ ?_
  · rintro j ⟨x, σ1⟩ - hj ⟨e1, e2, e3⟩
    simp only at e1 e2 e3
    have hT : CTx b n σ1 := CTx_cg h (Wr_sb e1 rfl)
    have hlt : s + j < n := by omega
    have hL := g3 (s + j) (by omega) (by omega)
    have hb := isL_sp.mp hL
    simp only [m_X9_scanLetters_L2]
    rw [hT.1, e2, if_neg (by omega), cByte2 hT, bnd_s, if_pos hlt, cLet, bnd_s, if_pos hL, if_neg (by decide), bnd_s, m_X9_withLetter, bnd_s, pt_s, bnd_s, nx1 (by omega), Hp_some, Lq_inl]
    refine ⟨Wr_up e1 rfl, by simp only; rw [up_eq]; rfl, fun h8 => ?_⟩
    have hok : okL (lst b s j) := lst_ok _ (fun q k1 k2 => g3 q k1 (by omega))
    have hbd := nB32_bd _ hok
    rw [lst_len] at hbd
    have hsm := (bd_small ⟨j, by omega⟩).1
    simp only at hsm
    have hd : wr (wr (b (s + j) - 97) + 1) = b (s + j) - 96 := by
      rw [wr_id' (x := b (s + j) - 97) (by omega) (by omega), wr_id' (by omega) (by omega)]; omega
    show orL (shlL x 5) (wr (wr (b (s + j) - 97) + 1)) = 32 * nB 32 (lst b s j) + (b (s + j) - 96)
    rw [hd, e3 (by omega), letter5 ⟨by omega, by omega⟩ ⟨by omega, by omega⟩]
  · rintro ⟨x, σ1⟩ ⟨e1, e2, e3⟩
    simp only at e1 e2 e3
    have hT : CTx b n σ1 := CTx_cg h (Wr_sb e1 rfl)
    rw [show s + (en isL b n s - s) = en isL b n s by omega] at e2
    have hend : Lq (fun (r : Int × St) => Wr ([], [(16, 6)]) σ r.2 ∧ r.2 16 6 = (en isL b n s : Int) ∧ (en isL b n s - s ≤ 8 → r.1 = nB 32 (lst b s (en isL b n s - s)))) (fun (_ : Int × St) => False) (.inr (x, σ1)) := ⟨e1, e2, e3⟩
    simp only [m_X9_scanLetters_L2]
    rw [hT.1, e2]
    by_cases hlt : en isL b n s < n
    · rw [if_neg (by omega), cByte2 hT, bnd_s, if_pos hlt, cLet, bnd_s, g4 hlt, if_pos (by decide), Hp_some]
      exact hend
    · rw [if_pos (by omega), Hp_some]
      exact hend
theorem scanD_sp {b : Nat → Int} {n s : Nat} {σ : St} (h : CTx b n σ) (hs : σ 16 6 = (s : Int)) (hsn : s ≤ n) : Hp (m_X9_scanDigits σ) (fun r => Wr ([], [(16, 6)]) σ r.2 ∧ r.2 16 6 = (en isD b n s : Int) ∧ (en isD b n s - s ≤ 2 → r.1 = dgt b s (en isD b n s - s))) := by
  have n2 := h.2.1
  obtain ⟨⟨g1, g2⟩, g3, g4⟩ := en_sp (P := isD) (b := b) hsn
  rw [m_X9_scanDigits, Hp_bind]
  simp only [Hp_some]
  refine Hp_up (fun j (z : Int × St) => Wr ([], [(16, 6)]) σ z.2 ∧ z.2 16 6 = ((s + j : Nat) : Int) ∧ (j ≤ 2 → z.1 = dgt b s j)) 0 (en isD b n s - s) (by omega) (by omega) ⟨Wr_rf, hs, fun _ => rfl⟩ ?_ ?_
  · rintro j ⟨x, σ1⟩ - hj ⟨e1, e2, e3⟩
    simp only at e1 e2 e3
    have hT : CTx b n σ1 := CTx_cg h (Wr_sb e1 rfl)
    have hlt : s + j < n := by omega
    have hL := g3 (s + j) (by omega) (by omega)
    have hb := isD_sp.mp hL
    simp only [m_X9_scanDigits_L2]
    rw [hT.1, e2, if_neg (by omega), cByte2 hT, bnd_s, if_pos hlt, cDig, bnd_s, if_pos hL, if_neg (by decide), bnd_s, vl, bnd_s, pt_s, bnd_s, nx1 (by omega), Hp_some, Lq_inl]
    refine ⟨Wr_up e1 rfl, by simp only; rw [up_eq]; rfl, fun h8 => ?_⟩
    obtain ⟨d1, d2, d3⟩ := dgt_bd (b := b) (s := s) j (fun q k1 k2 => g3 q k1 (by omega)) (by omega)
    have d2' := d2 (by omega)
    show wr (wr (wr (x * 10) + b (s + j)) - 48) = 10 * dgt b s j + (b (s + j) - 48)
    rw [e3 (by omega), wr_id' (x := dgt b s j * 10) (by omega) (by omega), wr_id' (x := dgt b s j * 10 + b (s + j)) (by omega) (by omega), wr_id' (by omega) (by omega)]
    omega
  · rintro ⟨x, σ1⟩ ⟨e1, e2, e3⟩
    simp only at e1 e2 e3
    have hT : CTx b n σ1 := CTx_cg h (Wr_sb e1 rfl)
    rw [show s + (en isD b n s - s) = en isD b n s by omega] at e2
    have hend : Lq (fun (r : Int × St) => Wr ([], [(16, 6)]) σ r.2 ∧ r.2 16 6 = (en isD b n s : Int) ∧ (en isD b n s - s ≤ 2 → r.1 = dgt b s (en isD b n s - s))) (fun (_ : Int × St) => False) (.inr (x, σ1)) := ⟨e1, e2, e3⟩
    simp only [m_X9_scanDigits_L2]
    rw [hT.1, e2]
    by_cases hlt : en isD b n s < n
    · rw [if_neg (by omega), cByte2 hT, bnd_s, if_pos hlt, cDig, bnd_s, g4 hlt, if_pos (by decide), Hp_some]
      exact hend
    · rw [if_pos (by omega), Hp_some]
      exact hend
theorem blank_sp {b : Nat → Int} {n s : Nat} {σ : St} (h : CTx b n σ) (hs : σ 16 6 = (s : Int)) (hsn : s ≤ n) : Hp (lp (fun a => m_X9_scanToken_L14 a) σ) (fun r => Wr ([], [(16, 6)]) σ r ∧ r 16 6 = (en isB b n s : Int)) := by
  have n2 := h.2.1
  obtain ⟨⟨g1, g2⟩, g3, g4⟩ := en_sp (P := isB) (b := b) hsn
  refine Hp_up (fun j (z : St) => Wr ([], [(16, 6)]) σ z ∧ z 16 6 = ((s + j : Nat) : Int)) 0 (en isB b n s - s) (by omega) (by omega) ⟨Wr_rf, hs⟩ ?_ ?_
  · rintro j σ1 - hj ⟨e1, e2⟩
    have hT : CTx b n σ1 := CTx_cg h (Wr_sb e1 rfl)
    have hlt : s + j < n := by omega
    have hL := g3 (s + j) (by omega) (by omega)
    simp only [m_X9_scanToken_L14]
    rw [hT.1, e2, if_neg (by omega), cByte2 hT, bnd_s, if_pos hlt, cBla, bnd_s, if_pos hL, if_neg (by decide), pt_s, bnd_s, nx1 (by omega), Hp_some, Lq_inl]
    exact ⟨Wr_up e1 rfl, up_eq ..⟩
  · rintro σ1 ⟨e1, e2⟩
    have hT : CTx b n σ1 := CTx_cg h (Wr_sb e1 rfl)
    rw [show s + (en isB b n s - s) = en isB b n s by omega] at e2
    simp only [m_X9_scanToken_L14]
    rw [hT.1, e2]
    by_cases hlt : en isB b n s < n
    · rw [if_neg (by omega), cByte2 hT, bnd_s, if_pos hlt, cBla, bnd_s, g4 hlt, if_pos (by decide), Hp_some, Lq_inr]
      exact ⟨e1, e2⟩
    · rw [if_pos (by omega), Hp_some, Lq_inr]
      exact ⟨e1, e2⟩
/-- the class's i-th token, which begins at s -/
def TkC (b : Nat → Int) (n s : Nat) (τ : St) (i : Nat) : Prop := τ 17 i = tkK b n s ∧ τ 18 i = (s : Int) ∧ (tkK b n s = 27 → τ 19 i = dgt b s (en isD b n s - s)) ∧ (tkK b n s = 26 → τ 20 i = nB 32 (lst b s (en isL b n s - s)))
/-- only slot i of the tokens' cells is written -/
def OnlyI (i : Nat) (σ τ : St) : Prop := Wr ([(17, 20)], [(16, 6)]) σ τ ∧ ∀ k j, 17 ≤ k → k ≤ 20 → j ≠ i → τ k j = σ k j
theorem OnlyI_rf {i : Nat} {σ : St} : OnlyI i σ σ := ⟨Wr_rf, fun _ _ _ _ _ => rfl⟩
theorem OnlyI_wr {i : Nat} {σ τ τ' : St} (h : OnlyI i σ τ) (hw : Wr ([], [(16, 6)]) τ τ') : OnlyI i σ τ' := by
  refine ⟨Wr_tr h.1 (Wr_sb hw rfl), fun k j h1 h2 h3 => ?_⟩
  rw [hw k j (by
    have : k = 17 ∨ k = 18 ∨ k = 19 ∨ k = 20 := by omega
    rcases this with q | q | q | q <;> subst q <;> rfl)]
  exact h.2 k j h1 h2 h3
theorem OnlyI_up {i k0 : Nat} {x : Int} {σ τ : St} (h : OnlyI i σ τ) (hk : 17 ≤ k0 ∧ k0 ≤ 20) : OnlyI i σ (up τ k0 i x) := by
  refine ⟨Wr_up h.1 ?_, fun k j h1 h2 h3 => ?_⟩
  · have : k0 = 17 ∨ k0 = 18 ∨ k0 = 19 ∨ k0 = 20 := by omega
    rcases this with q | q | q | q <;> subst q <;> rfl
  · rw [up_slot h3]; exact h.2 k j h1 h2 h3
theorem OnlyI_cx {b : Nat → Int} {n i : Nat} {σ τ : St} (h : CTx b n σ) (ho : OnlyI i σ τ) : CTx b n τ := CTx_cg h (Wr_sb ho.1 rfl)
theorem scanT_sp {b : Nat → Int} {n p i : Nat} {σ : St} (h : CTx b n σ) (hp : σ 16 6 = (p : Int)) (hpn : p ≤ n) (hi : i < 502) : Hp (m_X9_scanToken (i : Int) σ) (fun r => OnlyI i σ r.2 ∧ r.1 = tkK b n (en isB b n p) ∧ TkC b n (en isB b n p) r.2 i ∧ (r.1 ≠ 29 → r.1 ≠ 30 → r.2 16 6 = (tkE b n (en isB b n p) : Int))) := by
  rw [m_X9_scanToken, if_neg (by omega), if_pos (by omega), Hp_bind]
  refine Hp_mono (blank_sp h hp hpn) ?_
  rintro σ1 ⟨w1, w2⟩
  obtain ⟨s, hs⟩ : ∃ s, s = en isB b n p := ⟨_, rfl⟩
  rw [← hs] at w2 ⊢
  have hsn : s ≤ n := by rw [hs]; exact (en_sp hpn).1.2
  have n2 := h.2.1
  have o1 : OnlyI i σ σ1 := OnlyI_wr OnlyI_rf w1
  rw [w2, wt_ok (by omega) (by omega), bnd_s, Int.toNat_natCast, wt_ok (by omega) (by omega), bnd_s, Int.toNat_natCast, wt_ok (by omega) (by omega), bnd_s, Int.toNat_natCast]
  obtain ⟨σ2, h2⟩ : ∃ σ2, σ2 = up (up (up σ1 18 i (s : Int)) 19 i 0) 20 i 0 := ⟨_, rfl⟩
  rw [← h2]
  have o2 : OnlyI i σ σ2 := by
    rw [h2]
    exact OnlyI_up (OnlyI_up (OnlyI_up o1 (by omega)) (by omega)) (by omega)
  have T2 := OnlyI_cx h o2
  have e6 : σ2 16 6 = (s : Int) := by rw [h2, up_cell (by decide), up_cell (by decide), up_cell (by decide)]; exact w2
  have e18 : σ2 18 i = (s : Int) := by rw [h2, up_cell (by decide), up_cell (by decide), up_eq]
  rw [e6, cByte2 T2, bnd_s, cLet, bnd_s]
  by_cases hlt : s < n
  · rw [if_pos hlt]
    have hb := h.2.2.2 s hlt
    by_cases hL : isL (b s) = true
    · have hk : tkK b n s = (if en isL b n s - s ≤ 8 then wrd (nB 32 (lst b s (en isL b n s - s))) else 30) := by
        unfold tkK; rw [if_neg (by omega), if_pos hL]
      have hE : tkE b n s = en isL b n s := if_pos hL
      obtain ⟨⟨g1, g2⟩, -, -⟩ := en_sp (P := isL) (b := b) hsn
      rw [if_pos hL, if_neg (by decide), Hp_bind]
      refine Hp_mono (scanL_sp T2 e6 hsn) ?_
      rintro ⟨x, σ3⟩ ⟨w3, w4, w5⟩
      simp only at w3 w4 w5
      have o3 := OnlyI_wr o2 w3
      have f18 : (up σ3 20 i x) 18 i = (s : Int) := by rw [up_cell (by decide), w3 18 i rfl]; exact e18
      have f6 : (up σ3 20 i x) 16 6 = (en isL b n s : Int) := by rw [up_cell (by decide)]; exact w4
      simp only
      rw [wt_ok (by omega) (by omega), bnd_s, Int.toNat_natCast, rd_ok (by omega) (by omega), bnd_s, Int.toNat_natCast, f18, f6, wr_id' (by omega) (by omega)]
      by_cases h8 : en isL b n s - s ≤ 8
      · rw [if_pos h8] at hk
        rw [if_pos (by omega), rd_ok (by omega) (by omega), bnd_s, Int.toNat_natCast, up_eq, wordOf_sp, bnd_s, wt_ok (by omega) (by omega), bnd_s, Int.toNat_natCast, m_X9_scanToken_J234, rd_ok (by omega) (by omega), bnd_s, Int.toNat_natCast, up_eq, Hp_some]
        refine ⟨OnlyI_up (OnlyI_up o3 (by omega)) (by omega), ?_, ⟨?_, ?_, fun q => ?_, fun _ => ?_⟩, fun _ _ => ?_⟩
        · simp only; rw [hk, w5 h8]
        · simp only; rw [up_eq, hk, w5 h8]
        · simp only; rw [up_cell (by decide)]; exact f18
        · exfalso
          have hok : okL (lst b s (en isL b n s - s)) := lst_ok _ (fun q g3 g4 => (en_sp (P := isL) (b := b) hsn).2.1 q g3 (by omega))
          have := (word_same hok (by rw [lst_len]; exact h8)).1.2
          omega
        · simp only; rw [up_cell (by decide), up_eq]; exact w5 h8
        · simp only; rw [up_cell (by decide), hE]; exact f6
      · rw [if_neg h8] at hk
        rw [if_neg (by omega), wt_ok (by omega) (by omega), bnd_s, Int.toNat_natCast, m_X9_scanToken_J234, rd_ok (by omega) (by omega), bnd_s, Int.toNat_natCast, up_eq, Hp_some, hk]
        refine ⟨OnlyI_up (OnlyI_up o3 (by omega)) (by omega), rfl, ⟨?_, ?_, fun q => ?_, fun q => ?_⟩, fun _ q => absurd rfl q⟩
        · simp only; rw [up_eq, hk]
        · simp only; rw [up_cell (by decide)]; exact f18
        · rw [hk] at q; exact absurd q (by decide)
        · rw [hk] at q; exact absurd q (by decide)
    · rw [if_neg hL, if_pos rfl, cDig, bnd_s]
      by_cases hD : isD (b s) = true
      · have hk : tkK b n s = (if en isD b n s - s ≤ 2 then 27 else 30) := by
          unfold tkK; rw [if_neg (by omega), if_neg hL, if_pos hD]
        have hE : tkE b n s = en isD b n s := by unfold tkE; rw [if_neg hL, if_pos hD]
        obtain ⟨⟨g1, g2⟩, -, -⟩ := en_sp (P := isD) (b := b) hsn
        rw [if_pos hD, if_neg (by decide), Hp_bind]
        refine Hp_mono (scanD_sp T2 e6 hsn) ?_
        rintro ⟨x, σ3⟩ ⟨w3, w4, w5⟩
        simp only at w3 w4 w5
        have o3 := OnlyI_wr o2 w3
        have f18 : (up σ3 19 i x) 18 i = (s : Int) := by rw [up_cell (by decide), w3 18 i rfl]; exact e18
        have f6 : (up σ3 19 i x) 16 6 = (en isD b n s : Int) := by rw [up_cell (by decide)]; exact w4
        simp only
        rw [wt_ok (by omega) (by omega), bnd_s, Int.toNat_natCast, rd_ok (by omega) (by omega), bnd_s, Int.toNat_natCast, f18, f6, wr_id' (by omega) (by omega)]
        by_cases h2 : en isD b n s - s ≤ 2
        · rw [if_pos h2] at hk
          rw [if_pos (by omega), wt_ok (by omega) (by omega), bnd_s, Int.toNat_natCast, m_X9_scanToken_J234, rd_ok (by omega) (by omega), bnd_s, Int.toNat_natCast, up_eq, Hp_some, hk]
          refine ⟨OnlyI_up (OnlyI_up o3 (by omega)) (by omega), rfl, ⟨?_, ?_, fun q => ?_, fun q => ?_⟩, fun _ _ => ?_⟩
          · simp only; rw [up_eq, hk]
          · simp only; rw [up_cell (by decide)]; exact f18
          · simp only; rw [up_cell (by decide), up_eq]; exact w5 h2
          · rw [hk] at q; exact absurd q (by decide)
          · simp only; rw [up_cell (by decide), hE]; exact f6
        · rw [if_neg h2] at hk
          rw [if_neg (by omega), wt_ok (by omega) (by omega), bnd_s, Int.toNat_natCast, m_X9_scanToken_J234, rd_ok (by omega) (by omega), bnd_s, Int.toNat_natCast, up_eq, Hp_some, hk]
          refine ⟨OnlyI_up (OnlyI_up o3 (by omega)) (by omega), rfl, ⟨?_, ?_, fun q => ?_, fun q => ?_⟩, fun _ q => absurd rfl q⟩
          · simp only; rw [up_eq, hk]
          · simp only; rw [up_cell (by decide)]; exact f18
          · rw [hk] at q; exact absurd q (by decide)
          · rw [hk] at q; exact absurd q (by decide)
      · have hE : tkE b n s = s + 1 := by unfold tkE; rw [if_neg hL, if_neg hD]
        rw [if_neg hD, if_pos rfl]
        by_cases hc : b s = 59
        · have hk : tkK b n s = 28 := by
            unfold tkK; rw [if_neg (by omega), if_neg hL, if_neg hD, if_pos hc]
          rw [if_pos hc, wt_ok (by omega) (by omega), bnd_s, Int.toNat_natCast, up_cell (by decide), e6, pt_s, bnd_s, m_X9_scanToken_J234, rd_ok (by omega) (by omega), bnd_s, Int.toNat_natCast, up_cell (by decide), up_eq, Hp_some, hk]
          refine ⟨OnlyI_wr (OnlyI_up o2 (by omega)) (Wr_up Wr_rf rfl), rfl, ⟨?_, ?_, fun q => ?_, fun q => ?_⟩, fun _ _ => ?_⟩
          · simp only; rw [up_cell (by decide), up_eq, hk]
          · simp only; rw [up_cell (by decide), up_cell (by decide)]; exact e18
          · rw [hk] at q; exact absurd q (by decide)
          · rw [hk] at q; exact absurd q (by decide)
          · simp only; rw [up_eq, hE, nx1 (by omega)]
        · have hk : tkK b n s = 30 := by
            unfold tkK; rw [if_neg (by omega), if_neg hL, if_neg hD, if_neg hc]
          rw [if_neg hc, if_neg (by omega), wt_ok (by omega) (by omega), bnd_s, Int.toNat_natCast, m_X9_scanToken_J234, rd_ok (by omega) (by omega), bnd_s, Int.toNat_natCast, up_eq, Hp_some, hk]
          refine ⟨OnlyI_up o2 (by omega), rfl, ⟨?_, ?_, fun q => ?_, fun q => ?_⟩, fun _ q => absurd rfl q⟩
          · simp only; rw [up_eq, hk]
          · simp only; rw [up_cell (by decide)]; exact e18
          · rw [hk] at q; exact absurd q (by decide)
          · rw [hk] at q; exact absurd q (by decide)
  · have hk : tkK b n s = 29 := by
      unfold tkK; rw [if_pos (by omega)]
    rw [if_neg hlt, if_pos (by decide), cDig, bnd_s, if_pos (by decide), if_neg (by decide), if_pos rfl, wt_ok (by omega) (by omega), bnd_s, Int.toNat_natCast, m_X9_scanToken_J234, rd_ok (by omega) (by omega), bnd_s, Int.toNat_natCast, up_eq, Hp_some, hk]
    refine ⟨OnlyI_up o2 (by omega), rfl, ⟨?_, ?_, fun q => ?_, fun q => ?_⟩, fun q _ => absurd rfl q⟩
    · simp only; rw [up_eq, hk]
    · simp only; rw [up_cell (by decide)]; exact e18
    · rw [hk] at q; exact absurd q (by decide)
    · rw [hk] at q; exact absurd q (by decide)
/-- none of the tokens ahead of the i-th is the text's end, or no token -/
def VT (b : Nat → Int) (n i : Nat) : Prop := ∀ j, j < i → tkK b n (tkS b n j) ≠ 29 ∧ tkK b n (tkS b n j) ≠ 30
theorem scan_sp {b : Nat → Int} {n : Nat} {σ : St} (h : CTx b n σ) : Hp (m_X9_scan σ) (fun τ => Wr ([(17, 20)], [(16, 6)]) σ τ ∧ ∀ i, i < 502 → VT b n i → TkC b n (tkS b n i) τ i) := by
  rw [m_X9_scan, pt_s, bnd_s, Hp_bind]
  simp only [Hp_some]
  refine Hp_up (fun i (z : Int × Int × St) => z.2.1 = (i : Int) ∧ Wr ([(17, 20)], [(16, 6)]) σ z.2.2 ∧ (∀ j, j < i → TkC b n (tkS b n j) z.2.2 j) ∧ ((VT b n i ∧ z.1 ≠ 29 ∧ z.1 ≠ 30 ∧ ∃ p : Nat, z.2.2 16 6 = (p : Int) ∧ p ≤ n ∧ en isB b n p = tkS b n i) ∨ ((z.1 = 29 ∨ z.1 = 30) ∧ ¬ VT b n i))) 0 502 (by omega) (by omega) ⟨rfl, Wr_up Wr_rf rfl, fun j hj => by omega, Or.inl ⟨fun j hj => by omega, show (27 : Int) ≠ 29 by decide, show (27 : Int) ≠ 30 by decide, 0, (by simp only; rw [up_eq]; rfl), Nat.zero_le _, rfl⟩⟩ ?_ ?_
  · rintro i ⟨x, y, σ1⟩ - hi ⟨e1, e2, e3, e4⟩
    simp only at e1 e2 e3 e4
    subst e1
    simp only [m_X9_scan_L10]
    rw [if_neg (by omega)]
    rcases e4 with ⟨v1, v2, v3, p, v4, v5, v6⟩ | ⟨v1, v2⟩
    · rw [if_neg v2, if_neg v3, Hp_bind]
      have hT : CTx b n σ1 := CTx_cg h (Wr_sb e2 rfl)
      refine Hp_mono (scanT_sp hT v4 v5 hi) ?_
      rintro ⟨z, σ2⟩ ⟨w1, w2, w3, w4⟩
      rw [v6] at w2 w3 w4
      simp only at w1 w2 w3 w4
      simp only
      rw [Hp_some, Lq_inl, nx1 (by omega)]
      refine ⟨rfl, Wr_tr e2 w1.1, fun j hj => ?_, ?_⟩
      · by_cases hji : j = i
        · subst hji; exact w3
        · obtain ⟨k1, k2, k3, k4⟩ := e3 j (by omega)
          simp only
          refine ⟨?_, ?_, fun q => ?_, fun q => ?_⟩
          · rw [w1.2 17 j (by omega) (by omega) hji]; exact k1
          · rw [w1.2 18 j (by omega) (by omega) hji]; exact k2
          · rw [w1.2 19 j (by omega) (by omega) hji]; exact k3 q
          · rw [w1.2 20 j (by omega) (by omega) hji]; exact k4 q
      · simp only
        by_cases hz : z = 29 ∨ z = 30
        · refine Or.inr ⟨hz, fun q => ?_⟩
          have := q i (by omega)
          rw [← w2] at this
          omega
        · have hz1 : z ≠ 29 := fun q => hz (Or.inl q)
          have hz2 : z ≠ 30 := fun q => hz (Or.inr q)
          refine Or.inl ⟨fun j hj => ?_, hz1, hz2, tkE b n (tkS b n i), w4 hz1 hz2, (tkE_sp (tk_lt (by rw [← w2]; exact hz1))).2, rfl⟩
          by_cases hji : j = i
          · subst hji; rw [← w2]; exact ⟨hz1, hz2⟩
          · exact v1 j (by omega)
    · have hgo : Lq (fun τ => Wr ([(17, 20)], [(16, 6)]) σ τ ∧ ∀ i, i < 502 → VT b n i → TkC b n (tkS b n i) τ i) (fun z : Int × Int × St => z.2.1 = ((i + 1 : Nat) : Int) ∧ Wr ([(17, 20)], [(16, 6)]) σ z.2.2 ∧ (∀ j, j < i + 1 → TkC b n (tkS b n j) z.2.2 j) ∧ ((VT b n (i + 1) ∧ z.1 ≠ 29 ∧ z.1 ≠ 30 ∧ ∃ p : Nat, z.2.2 16 6 = (p : Int) ∧ p ≤ n ∧ en isB b n p = tkS b n (i + 1)) ∨ ((z.1 = 29 ∨ z.1 = 30) ∧ ¬ VT b n (i + 1)))) (Sum.inr σ1) := by
        rw [Lq_inr]
        refine ⟨e2, fun j hj hv => e3 j ?_⟩
        by_cases hji : j < i
        · exact hji
        · exact absurd (fun q hq => hv q (by omega)) v2
      by_cases h29 : x = 29
      · rw [if_pos h29, Hp_some]; exact hgo
      · rw [if_neg h29, if_pos (by omega), Hp_some]; exact hgo
  · rintro ⟨x, y, σ1⟩ ⟨e1, e2, e3, e4⟩
    simp only at e1 e2 e3 e4
    subst e1
    simp only [m_X9_scan_L10]
    rw [if_pos (by omega), Hp_some, Lq_inr]
    exact ⟨e2, fun i hi _ => e3 i hi⟩
