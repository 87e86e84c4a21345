/-! a deed, both sides -/
theorem hnd_out {ρ : St} {A N : Nat} {f : Nat → Nat} {cx : Nat → List Bool} {cd : Nat → Nat} {t a s p : Nat} {l : List (Nat × Nat)} {τ τm : St} {o1 o2 : Option St} (ha : a < 8) (hAt : AtS ρ N a A f cx cd τ τm p l) (hO : Own ρ t a τ τm s) (h : Hp2 o1 o2 (Hnd ρ A N f cx cd t (a + 1) (fun b => b ≠ a) τ τm)) : Hp2 (o1.bind fun σ => some ((0 : Int), σ)) o2 (Out ρ A N f cx cd t a s) := by
  obtain ⟨τ1, τm1, e1, e2, w, g1, g2⟩ := h
  exact ⟨(0, τ1), τm1, by rw [e1]; rfl, e2, out_run ⟨w, ⟨p, l, AtS_glo ha hAt g1 g2⟩, Own_glo ha hO g1 g2⟩⟩
theorem deed_simple {ρ : St} {A N : Nat} {f : Nat → Nat} {cx : Nat → List Bool} {cd : Nat → Nat} {t a s p k o m : Nat} {l : List (Nat × Nat)} {τ τm : St} (hB : Base ρ A N f cx cd) (ha : a < A) (hW : Wld ρ A N f cx cd t (a + 1) (fun b => b ≠ a) τ τm) (hAt : AtS ρ N a A f cx cd τ τm p l) (hO : Own ρ t a τ τm s)
    (hk : (k = 7 ∧ o = 0 ∧ m = 9) ∨ (k = 21 ∧ o = 1 ∧ m = 95) ∨ (k = 20 ∧ o = 2 ∧ m = 95) ∨ (k = 14 ∧ o = 3 ∧ m = 3) ∨ (k = 23 ∧ o = 4 ∧ m = 3) ∨ (k = 25 ∧ o = 5 ∧ m = 7) ∨ (k = 12 ∧ o = 6 ∧ m = 7) ∨ (k = 18 ∧ o = 7 ∧ m = 7) ∨ (k = 1 ∧ o = 8 ∧ m = 7) ∨ (k = 19 ∧ o = 9 ∧ m = 7) ∨ (k = 0 ∧ o = 10 ∧ m = 0)) (h23 : ρ 23 p = (k : Int)) (h181 : ρ 181 (f p) = (o : Int)) (h182 : ρ 182 (f p) = ρ 24 p) (hx0 : 0 ≤ ρ 24 p) (hxm : ρ 24 p ≤ (m : Int)) (hs : Sc N f cd p) (hcx : cx (p + 1) = cx p) :
    Hp2 (m_X8_takesTime a (39 + 7 * a) τ) (m_X12_deed a τm) (Out ρ A N f cx cd t a s) := by
  have hB' := hB
  obtain ⟨⟨bT, -, -⟩, ⟨-, hA, -⟩, ⟨L, c, hL, b17, b7, b8, bP⟩, -⟩ := hB'
  obtain ⟨⟨w0, ⟨⟨w1, w2, w3⟩, w4⟩, -⟩, -⟩ := id hW
  obtain ⟨a1, a2, a3, -⟩ := id hAt
  have hN := bP.1.1
  have hfb := f_bd bP hL a1
  have t14 := bT.1
  obtain ⟨⟨⟨k1, k2⟩, -⟩, -, -, k9, -⟩ := id hO
  have hs10 : s < 10 := by omega
  obtain ⟨x, hx⟩ : ∃ x : Nat, ρ 24 p = (x : Int) := ⟨(ρ 24 p).toNat, by omega⟩
  obtain ⟨W1, At1, O1⟩ := adv ha hA hW hAt hO hs hcx
  have ha8 : a < 8 := by omega
  have c24 : τ 24 p = (x : Int) := by rw [fr_c w0 (by omega)]; exact hx
  have c23 : τ 23 p = (k : Int) := by rw [fr_c w0 (by omega)]; exact h23
  have c7 : τ 22 7 = (N : Int) := by rw [fr_c w0 (by omega)]; exact b7
  have m181 : τm 181 (f p) = (o : Int) := by rw [fr_m w0 (by omega)]; exact h181
  have m182 : τm 182 (f p) = (x : Int) := by rw [fr_m w0 (by omega), h182]; exact hx
  have g9 : (up τ (39 + 7 * a) 4 ((p + 1 : Nat) : Int)) (39 + 7 * a) 9 = (s : Int) := by rw [up_slot (by omega)]; exact k9
  have g14 : (s : Int) < (up τ (39 + 7 * a) 4 ((p + 1 : Nat) : Int)) 1 4 := by rw [up_cell (by omega), fr_c w0 (by omega)]; exact k2
  have g129 : (up τ (39 + 7 * a) 4 ((p + 1 : Nat) : Int)) 129 12 = (t : Int) := by rw [up_cell (by omega)]; exact w1
  have g181 : (up τm 212 a ((f p + 1 : Nat) : Int)) 181 (f p) = (o : Int) := by rw [up_cell (by omega)]; exact m181
  have g71 : (up τm 212 a ((f p + 1 : Nat) : Int)) 170 71 = (t : Int) := by rw [up_cell (by omega)]; exact w2
  have g201 : (up τm 212 a ((f p + 1 : Nat) : Int)) 201 (96 * a + t) = (s : Int) := O1.2.2.2.2.2.2
  rw [hx] at hxm
  rcases hk with ⟨rfl, rfl, rfl⟩ | ⟨rfl, rfl, rfl⟩ | ⟨rfl, rfl, rfl⟩ | ⟨rfl, rfl, rfl⟩ | ⟨rfl, rfl, rfl⟩ | ⟨rfl, rfl, rfl⟩ | ⟨rfl, rfl, rfl⟩ | ⟨rfl, rfl, rfl⟩ | ⟨rfl, rfl, rfl⟩ | ⟨rfl, rfl, rfl⟩ | ⟨rfl, rfl, rfl⟩
  · rw [dc_7 hN a1 a2 c24 c23 c7, dm_0 ha8 (by omega) a3 m182 k1 m181, a2, nx1 (by omega), pt_s, bnd_s]
    exact dl_7 hB ha hA W1 At1 O1 (by omega)
  · rw [dc_21 hN a1 a2 c24 c23 c7, dm_1 ha8 (by omega) a3 m182 k1 m181, a2, nx1 (by omega), pt_s, bnd_s, pt_s, bnd_s, g129, wr_id' (by omega) (by omega), m_X12_deed_J158, rd_ok (by omega) (by omega), bnd_s, Int.toNat_natCast, g181, if_pos (show ((1 : Nat) : Int) = 1 from rfl), g71, wr_id' (by omega) (by omega)]
    have h := dl_wait (z := (t : Int) + (x : Int)) ha hA W1 At1 O1
    by_cases hz : x = 0
    · rw [if_pos (by omega), if_pos (by omega)] at h
      rw [if_pos (by omega), show (t : Int) + (x : Int) = (t : Int) by omega]
      rw [show (t : Int) + (x : Int) = (t : Int) by omega] at h
      exact h
    · rw [if_neg (by omega), if_neg (by omega)] at h
      rw [if_neg (by omega)]
      exact h
  · rw [dc_20 hN a1 a2 c24 c23 c7, dm_2 ha8 (by omega) a3 m182 k1 m181, a2, nx1 (by omega), pt_s, bnd_s, pt_s, bnd_s, g129, up_cell (by omega), g129, m_X12_deed_J158, rd_ok (by omega) (by omega), bnd_s, Int.toNat_natCast, g181, if_neg (show ¬ (((2 : Nat) : Int) = 1) by decide)]
    have h := dl_wait (z := (x : Int)) ha hA W1 At1 O1
    by_cases hz : (x : Int) ≤ (t : Int)
    · rw [if_pos hz, if_pos hz] at h
      rw [if_pos hz, show maxI (t : Int) (x : Int) = (t : Int) by unfold maxI; split <;> omega]
      exact h
    · rw [if_neg hz, if_neg hz] at h
      rw [if_neg hz, show maxI (t : Int) (x : Int) = (x : Int) by unfold maxI; split <;> omega]
      exact h
  · rw [dc_14 hN a1 a2 c24 c23 c7, dm_3 ha8 (by omega) a3 m182 k1 m181, dh_14 g9 g14 hs10, g9]
    exact hnd_out ha8 At1 O1 (hd_14 hA W1 hs10 (by omega))
  · rw [dc_23 hN a1 a2 c24 c23 c7, dm_4 ha8 (by omega) a3 m182 k1 m181, dh_23 g9 g14 hs10, g9]
    exact hnd_out ha8 At1 O1 (hd_23 hA W1 hs10 (by omega))
  · rw [dc_25 hN a1 a2 c24 c23 c7, dm_5 ha8 (by omega) a3 m182 k1 m181, dh_25 g9 g14 hs10]
    exact hnd_out ha8 At1 O1 (hd_25 hA W1 ha (by omega))
  · rw [dc_12 hN a1 a2 c24 c23 c7, dm_6 ha8 (by omega) a3 m182 k1 m181, dh_12 g9 g14 hs10]
    exact hnd_out ha8 At1 O1 (hd_12 hA W1 ha (by omega) hs10 g9 g14)
  · rw [dc_18 hN a1 a2 c24 c23 c7, dm_7 ha8 (by omega) a3 m182 k1 m181, dh_18 g9 g14 hs10]
    exact hnd_out ha8 At1 O1 (hd_18 hA W1 ha (by omega) hs10 g9 g14)
  · rw [dc_1 hN a1 a2 c24 c23 c7, dm_8 ha8 (by omega) a3 m182 k1 m181, dh_1 g9 g14 hs10]
    exact hnd_out ha8 At1 O1 (hd_1 hA W1 ha (by omega))
  · rw [dc_19 hN a1 a2 c24 c23 c7, dm_9 ha8 (by omega) a3 m182 k1 m181, dh_19 g9 g14 hs10]
    obtain ⟨b1, b2, b3, b4, b5, b6, b7', d, b8'⟩ := id At1
    exact hnd_out ha8 At1 O1 (hd_19 hA W1 ha (by omega) g9 g201 b4 b5 (Stk_ent _ _ _ b8'))
  · rw [dc_0 hN a1 a2 c24 c23 c7, dm_10 ha8 (by omega) a3 m182 k1 m181]
    exact dl_0 (l := l) ha hA hW hO
/-- THE DEED at which an agent is -/
theorem deed_sp {ρ : St} {A N : Nat} {f : Nat → Nat} {cx : Nat → List Bool} {cd : Nat → Nat} {t a s p : Nat} {l : List (Nat × Nat)} {τ τm : St} (hB : Base ρ A N f cx cd) (ha : a < A) (hW : Wld ρ A N f cx cd t (a + 1) (fun b => b ≠ a) τ τm) (hAt : AtS ρ N a A f cx cd τ τm p l) (hO : Own ρ t a τ τm s) (hSt : Stay ρ 22 p l) :
    Hp2 (m_X8_takesTime a (39 + 7 * a) τ) (m_X12_deed a τm) (Out ρ A N f cx cd t a s) := by
  have hB' := hB
  obtain ⟨⟨bT, -, -⟩, ⟨-, hA, -⟩, ⟨L, c, hL, b17, b7, b8, bP⟩, -⟩ := hB'
  obtain ⟨⟨w0, -⟩, -⟩ := id hW
  obtain ⟨a1, a2, a3, a4, a5, a6, a7, d, r, a8, a9⟩ := id hAt
  have hN := bP.1.1
  have hfb := f_bd bP hL a1
  obtain ⟨-, P1, -⟩ := id bP
  obtain ⟨-, -, -, hOK⟩ := P1 p a1
  obtain ⟨⟨⟨k1, k2⟩, -⟩, -⟩ := id hO
  have ha8 : a < 8 := by omega
  have c7 : τ 22 7 = (N : Int) := by rw [fr_c w0 (by omega)]; exact b7
  have e23 : τ 23 p = ρ 23 p := congrFun (fr_c w0 (by omega)) p
  have e24 : τ 24 p = ρ 24 p := congrFun (fr_c w0 (by omega)) p
  have e181 : τm 181 (f p) = ρ 181 (f p) := congrFun (fr_m w0 (by omega)) _
  have e182 : τm 182 (f p) = ρ 182 (f p) := congrFun (fr_m w0 (by omega)) _
  rcases hOK with ⟨k, o, m, hk, e1, e2, e3, e4, e5, e6, e7⟩ | ⟨e1, e2, ⟨c', e3, e4⟩, e5, e6, e7⟩ | ⟨e1, e2, e3, e4, e5, e6, e7, t', e8, e9, e10⟩ | ⟨e1, e2, e3, e4, t', e5, e6, e7⟩ | ⟨⟨k, o, m, hk, e1, e2, e3⟩, e4, e5, e6, e7, t', e8, e9, e10⟩ | ⟨e1, e2, e3, e4, e5, e6, e7, e8, e9, e10, t', e11, e12, e13⟩ | ⟨e1, -⟩ | ⟨e1, -⟩ | ⟨e1, -⟩
  · exact deed_simple hB ha hW hAt hO hk e1 e2 e3 e4 e5 e6 e7
  · have e3' : ρ 24 p = (c' : Int) := e3
    have e1' : ρ 23 p = 3 := e1
    have e5' : ρ 182 (f p) = ρ 24 p := e5
    rw [dc_3 hN a1 a2 (e24.trans e3') (e23.trans e1') c7, dm_11 ha8 (by omega) a3 (e182.trans (e5'.trans e3')) k1 (e181.trans e2)]
    exact dl_3 hB ha hW hAt hO e4 e6 e7
  · obtain ⟨x, hx⟩ : ∃ x : Nat, ρ 24 p = (x : Int) := ⟨(ρ 24 p).toNat, by have e4' : 0 ≤ ρ 24 p := e4; omega⟩
    have e1' : ρ 23 p = 13 := e1
    have e3' : ρ 182 (f p) = ρ 24 p := e3
    have e5' : ρ 24 p ≤ 95 := e5
    rw [dc_13 hN a1 a2 (e24.trans hx) (e23.trans e1') c7, dm_12 ha8 (by omega) a3 (e182.trans (e3'.trans hx)) k1 (e181.trans e2)]
    exact dl_13 hB ha hW hAt hO (by omega) e6 e7 e8 e10
  · have e1' : ρ 23 p = 31 := e1
    rcases hSt with ⟨h, -⟩ | ⟨-, v, l', hl, hv⟩
    · exact absurd e1 h
    · subst hl
      rw [dc_31 hN a1 a2 e24 (e23.trans e1') c7, dm_13 ha8 (by omega) a3 (e182.trans e7) k1 (e181.trans e2)]
      exact dl_31 hB ha hW hAt hO hv e4 e5
  · have e4' : ρ 23 p = 9 := e4
    rw [dc_9 hN a1 a2 e24 (e23.trans e4') c7, dm_14 ha8 (by omega) a3 e182 k1 (e181.trans e5)]
    exact dl_9 (l := l) hB ha hW hAt hO hk e1 e2 e3 e6 e7 e8 e10
  · obtain ⟨x, hx⟩ : ∃ x : Nat, ρ 24 p = (x : Int) := ⟨(ρ 24 p).toNat, by have e4' : 0 ≤ ρ 24 p := e4; omega⟩
    obtain ⟨y, hy⟩ : ∃ y : Nat, ρ 25 p = (y : Int) := ⟨(ρ 25 p).toNat, by have e7' : 0 ≤ ρ 25 p := e7; omega⟩
    have e1' : ρ 23 p = 15 := e1
    have e3' : ρ 182 (f p) = ρ 24 p := e3
    have e5' : ρ 24 p ≤ 7 := e5
    have e6' : ρ 183 (f p) = ρ 25 p := e6
    have e8' : ρ 25 p ≤ 95 := e8
    rw [dc_15 hN a1 a2 (e24.trans hx) (e23.trans e1') c7, dm_16 ha8 (by omega) a3 (e182.trans (e3'.trans hx)) k1 (e181.trans e2)]
    exact dl_15 hB ha hW hAt hO e1' hx (by omega) hy (by omega) (e6'.trans hy) e9 e10 e11 e13
  · exfalso
    rcases hSt with ⟨-, h, -⟩ | ⟨h, -⟩
    · exact h e1
    · rw [e1] at h; exact absurd h (by decide)
  · exfalso
    rcases hSt with ⟨-, -, h, -⟩ | ⟨h, -⟩
    · exact h e1
    · rw [e1] at h; exact absurd h (by decide)
  · exfalso
    rcases hSt with ⟨-, -, -, h⟩ | ⟨h, -⟩
    · exact h e1
    · rw [e1] at h; exact absurd h (by decide)
