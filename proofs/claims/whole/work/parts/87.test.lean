/-! telling, both sides; the tests -/
theorem isAgent_c {τ : St} {v : Nat} (h : v < 8) : m_X8_isAgent (v : Int) τ = some 1 := by
  rw [m_X8_isAgent, if_neg (by omega), if_neg (by omega), if_neg (by omega)]
theorem placeOf_c {τ : St} {v t : Nat} (h : v < 8) (ht : τ 129 12 = (t : Int)) (h96 : t < 96) : m_X8_placeOf (v : Int) τ = some (τ (43 + 7 * v) t) := by
  rw [m_X8_placeOf, isAgent_c h, bnd_s, if_neg (show ¬ (1 : Int) = 0 by decide), ht, if_neg (by omega), if_neg (by omega), rr_ok (by omega) (by omega), bnd_s, Int.toNat_natCast, rf_ag h, rd_ok (by omega) (by omega), bnd_s, Int.toNat_natCast, show 39 + 7 * v + 4 = 43 + 7 * v by omega]
theorem hd_19 {ρ : St} {A N : Nat} {f : Nat → Nat} {cx : Nat → List Bool} {cd : Nat → Nat} {t j a s i : Nat} {q : Nat → Prop} {τ τm : St} {l : List (Nat × Nat)} (hA : A ≤ 8) (hW : Wld ρ A N f cx cd t j q τ τm) (ha : a < A) (hi : i < 8) (h9 : τ (39 + 7 * a) 9 = (s : Int)) (hpl : τm 201 (96 * a + t) = (s : Int)) (hC : FrC τ a l) (hM : FrM f τm a l) (he : ∀ e, e ∈ l → e.1 = 0 ∨ e.1 = 1 ∨ (e.1 = 2 ∧ e.2 < A)) :
    Hp2 ((m_X8_tellSecret (a : Int) (39 + 7 * a) (i : Int) τ).bind fun σ26 => some σ26) ((m_X12_tells (a : Int) (i : Int) τm).bind fun σ45 => some σ45) (Hnd ρ A N f cx cd t j q τ τm) := by
  obtain ⟨⟨-, ⟨⟨w1, w2, w3⟩, w4⟩, -⟩, ⟨⟨rk, w8⟩, -, -, -, -, w13, -⟩, -⟩ := id hW
  have k1 := (w8 a i ha hi).1.1
  obtain ⟨v0, g1, g2⟩ := inn_c hC (fun e h => by have := he e h; omega)
  rw [Hp2_iff, m_X8_tellSecret, show 39 + 7 * a + 1 = 40 + 7 * a by omega, g1, bnd_s, g2]
  have fin : ∀ τ', Hp ((m_X12_tells (a : Int) (i : Int) τm).bind fun σ45 => some σ45) (fun b => Hnd ρ A N f cx cd t j q τ τm τ' b) → Hp ((some τ').bind fun σ26 => some σ26) (fun x => Hp ((m_X12_tells (a : Int) (i : Int) τm).bind fun σ45 => some σ45) fun b => Hnd ρ A N f cx cd t j q τ τm x b) := by
    intro τ' h
    rw [bnd_s, Hp_some]; exact h
  have stay : Hnd ρ A N f cx cd t j q τ τm τ τm := ⟨hW, GloC_rf, GloM_rf⟩
  have tm := fun (τ' : St) => @tells_m f τm a A i t s l (fun b => Hnd ρ A N f cx cd t j q τ τm τ' b) (by omega) hA hi w2 w3 hpl hM he
  rcases inn_lt l he with hn | ⟨v, hv, hn⟩
  · have e1 : m_X8_isAgent (-1) τ = some 0 := by rw [m_X8_isAgent, if_pos (by decide)]
    rw [hn, e1, bnd_s, if_pos (show (0 : Int) = 0 from rfl)]
    refine fin τ ?_
    rw [Hp_bind]
    simp only [Hp_some]
    refine tm τ (fun _ => stay) ?_ ?_ ?_
    · intro v hv hq; omega
    · intro v hv hq; omega
    · intro v hv hq; omega
  · rw [hn, isAgent_c (by omega), bnd_s, if_neg (show ¬ (1 : Int) = 0 by decide), knows_c hi, bnd_s, k1.symm]
    have uniq : ∀ v' : Nat, inn l = (v' : Int) → v' = v := fun v' h => by omega
    by_cases hk : τm 202 (8 * a + i) = -1
    · rw [if_pos hk, if_pos (show (0 : Int) = 0 from rfl)]
      refine fin τ ?_
      rw [Hp_bind]
      simp only [Hp_some]
      exact tm τ (fun _ => stay) (fun _ _ _ _ => stay) (fun _ _ _ q => absurd hk q) (fun _ _ _ q => absurd hk q)
    · rw [if_neg hk, if_neg (show ¬ (1 : Int) = 0 by decide), placeOf_c (by omega) w1 w3, bnd_s, ← w13 v t hv (by omega), h9]
      by_cases hp : τm 201 (96 * v + t) = (s : Int)
      · rw [if_pos hp, rr_ok (by omega) (by omega), bnd_s, Int.toNat_natCast, rf_ag (by omega)]
        obtain ⟨τ1, τm1, o1, o2, hh⟩ := learn_2 hA hW hv ha hi hk
        rw [o1, bnd_s]
        refine fin τ1 ?_
        rw [Hp_bind]
        simp only [Hp_some]
        refine tm τ1 (fun q => by omega) (fun _ _ _ q => absurd q hk) (fun v' _ q _ q' => ?_) (fun v' _ q _ _ => ?_)
        · rw [uniq v' q] at q'; exact absurd hp q'
        · rw [uniq v' q]; exact ⟨τm1, o2, hh⟩
      · rw [if_neg hp]
        refine fin τ ?_
        rw [Hp_bind]
        simp only [Hp_some]
        refine tm τ (fun _ => stay) (fun _ _ _ _ => stay) (fun _ _ _ _ _ => stay) (fun v' _ q _ q' => ?_)
        rw [uniq v' q] at q'; exact absurd q' hp
/-- a test, both sides -/
def Tst (o1 o2 : Option Int) : Prop := ∃ v : Int, (v = 0 ∨ v = 1) ∧ o1 = some v ∧ o2 = some v
theorem test_sp {ρ : St} {A N : Nat} {f : Nat → Nat} {cx : Nat → List Bool} {cd : Nat → Nat} {t j a s : Nat} {q : Nat → Prop} {τ τm : St} {k o m x : Nat} (hB : Base ρ A N f cx cd) (hW : Wld ρ A N f cx cd t j q τ τm) (ha : a < A) (hO : Own ρ t a τ τm s)
    (hk : (k = 14 ∧ o = 0 ∧ m = 3) ∨ (k = 17 ∧ o = 1 ∧ m = 7) ∨ (k = 10 ∧ o = 2 ∧ m = 7) ∨ (k = 8 ∧ o = 3 ∧ m = 7) ∨ (k = 24 ∧ o = 4 ∧ m = 7) ∨ (k = 11 ∧ o = 5 ∧ m = 95) ∨ (k = 22 ∧ o = 6)) (hx : k ≠ 22 → x ≤ m) {xc xm : Int} (hxc : k ≠ 22 → xc = (x : Int) ∧ xm = (x : Int)) :
    Tst (m_X8_testHolds (39 + 7 * a) (k : Int) xc τ) (m_X12_holds (a : Int) (o : Int) xm τm) := by
  obtain ⟨⟨bT, bN, bA⟩, ⟨b6, hA, -⟩, -, bW, -⟩ := hB
  obtain ⟨⟨w0, ⟨⟨w1, w2, w3⟩, w4⟩, -⟩, ⟨⟨rk, w8⟩, w9, w10, w11, -, w13, w14⟩, -⟩ := id hW
  obtain ⟨⟨⟨o1, o2⟩, -⟩, -, -, o9, -, -, opl⟩ := hO
  have t14 := bT.1
  have hs : s < 10 := by omega
  have e14 : τ 1 4 = ρ 1 4 := congrFun (fr_c w0 (by omega)) 4
  have hsp : m_X10_hasSpot (s : Int) τ = some 1 := hasspot_c (by omega) hs
  have ha8 : a < 8 := by omega
  rcases hk with ⟨rfl, rfl, rfl⟩ | ⟨rfl, rfl, rfl⟩ | ⟨rfl, rfl, rfl⟩ | ⟨rfl, rfl, rfl⟩ | ⟨rfl, rfl, rfl⟩ | ⟨rfl, rfl, rfl⟩ | ⟨rfl, rfl⟩
  · -- a mark
    obtain ⟨rfl, rfl⟩ := hxc (by decide)
    have := hx (by decide)
    show Tst (m_X8_testHolds (39 + 7 * a) 14 _ τ) (m_X12_holds (a : Int) 0 _ τm)
    rw [th_14, mh_0 ha8 o1, o9, hsp, bnd_s, if_neg (show ¬ (1 : Int) = 0 by decide), rd_ok (by omega) (by omega), bnd_s, Int.toNat_natCast, rd_ok (by omega) (by omega), bnd_s, Int.toNat_natCast, (w10 s hs).1, bit_yes (by omega)]
    by_cases h : tb (τ 130 s) x = true
    · rw [if_pos h]; exact ⟨1, Or.inr rfl, rfl, rfl⟩
    · rw [if_neg h]; exact ⟨0, Or.inl rfl, rfl, rfl⟩
  · -- a paper
    obtain ⟨rfl, rfl⟩ := hxc (by decide)
    have := hx (by decide)
    show Tst (m_X8_testHolds (39 + 7 * a) 17 _ τ) (m_X12_holds (a : Int) 1 _ τm)
    rw [th_17, mh_1 ha8 o1, o9, m_X8_paperLies, hsp, bnd_s, if_neg (show ¬ (1 : Int) = 0 by decide), rd_ok (by omega) (by omega), bnd_s, Int.toNat_natCast, bit_yes (by omega), ix8 (by omega) (by omega), rd_ok (by omega) (by omega), bnd_s, Int.toNat_natCast]
    have hl := ((w11 s hs).2 x (by omega)).1
    by_cases h : tb (τ 131 s) x = true
    · rw [if_pos h, if_neg (hl.mpr h)]; exact ⟨1, Or.inr rfl, rfl, rfl⟩
    · have hz : τm 206 (8 * s + x) = -1 := by
        by_cases hz : τm 206 (8 * s + x) = -1
        · exact hz
        · exact absurd (hl.mp hz) h
      rw [if_neg h, if_pos hz]; exact ⟨0, Or.inl rfl, rfl, rfl⟩
  · -- knows
    obtain ⟨rfl, rfl⟩ := hxc (by decide)
    have := hx (by decide)
    show Tst (m_X8_testHolds (39 + 7 * a) 10 _ τ) (m_X12_holds (a : Int) 2 _ τm)
    rw [th_10, mh_2 ha8 o1, knows_c (by omega), bnd_s, ix8 (by omega) (by omega), rd_ok (by omega) (by omega), bnd_s, Int.toNat_natCast, (w8 a x ha (by omega)).1.1]
    by_cases h : τ (44 + 7 * a) x = -1
    · rw [if_pos h, if_pos h]; exact ⟨0, Or.inl rfl, rfl, rfl⟩
    · rw [if_neg h, if_neg h]; exact ⟨1, Or.inr rfl, rfl, rfl⟩
  · -- has
    obtain ⟨rfl, rfl⟩ := hxc (by decide)
    have := hx (by decide)
    show Tst (m_X8_testHolds (39 + 7 * a) 8 _ τ) (m_X12_holds (a : Int) 3 _ τm)
    rw [th_8, mh_3 ha8 o1, haspaper_c (by omega), bnd_s, rd_ok (by omega) (by omega), bnd_s, Int.toNat_natCast, (w9 a ha).1, bit_yes (by omega)]
    by_cases h : tb (τ (39 + 7 * a) 16) x = true
    · rw [if_pos h]; exact ⟨1, Or.inr rfl, rfl, rfl⟩
    · rw [if_neg h]; exact ⟨0, Or.inl rfl, rfl, rfl⟩
  · -- with
    obtain ⟨rfl, rfl⟩ := hxc (by decide)
    have hx7 := hx (by decide)
    have a35 : τm 170 35 = (A : Int) := by rw [fr_s w0 (by omega), bA.1.1, b6]
    have pl : ∀ b : Nat, b < 8 → m_X12_placeNow (b : Int) τm = some (τm 201 (96 * b + t)) := by
      intro b hb
      rw [m_X12_placeNow, w2, ix96 (by omega) (by omega), rd_ok (by omega) (by omega), bnd_s, Int.toNat_natCast]
    show Tst (m_X8_testHolds (39 + 7 * a) 24 _ τ) (m_X12_holds (a : Int) 4 _ τm)
    rw [th_24, mh_4 ha8 o1, placeOf_c (by omega) w1 w3, bnd_s, o9, a35]
    by_cases hAx : A ≤ x
    · have := (w14 x hAx (by omega)).2 t w3
      rw [if_neg (show ¬ τ (43 + 7 * x) t = (s : Int) by omega), if_pos (by omega)]; exact ⟨0, Or.inl rfl, rfl, rfl⟩
    · rw [if_neg (show ¬ (A : Int) ≤ (x : Int) by omega), pl x (by omega), bnd_s, pl a (by omega), bnd_s, opl, ← w13 x t (by omega) (by omega)]
      by_cases h : τm 201 (96 * x + t) = (s : Int)
      · rw [if_pos h]; exact ⟨1, Or.inr rfl, rfl, rfl⟩
      · rw [if_neg h]; exact ⟨0, Or.inl rfl, rfl, rfl⟩
  · -- the tick
    obtain ⟨rfl, rfl⟩ := hxc (by decide)
    show Tst (m_X8_testHolds (39 + 7 * a) 11 _ τ) (m_X12_holds (a : Int) 5 _ τm)
    rw [th_11, mh_5 ha8 o1, w1, w2]
    by_cases h : (t : Int) < (x : Int)
    · rw [if_pos h]; exact ⟨0, Or.inl rfl, rfl, rfl⟩
    · rw [if_neg h]; exact ⟨1, Or.inr rfl, rfl, rfl⟩
  · -- watched
    have e37 : τ 37 = ρ 37 := fr_c w0 (by omega)
    have e200 : τm 200 = ρ 200 := fr_m w0 (by omega)
    show Tst (m_X8_testHolds (39 + 7 * a) 22 _ τ) (m_X12_holds (a : Int) 6 _ τm)
    rw [th_22, mh_6 ha8 o1, w1, o9, m_X1_isWatched, if_neg (by omega), if_neg (by omega), rd_ok (by omega) (by omega), bnd_s, Int.toNat_natCast, e37, bit_yes (by omega), w2, ix96 (by omega) (by omega), rd_ok (by omega) (by omega), bnd_s, Int.toNat_natCast, e200]
    obtain ⟨g1, g2⟩ := bW t s w3 hs
    by_cases h : tb (ρ 37 t) s = true
    · rw [if_pos h, g2.mpr h]; exact ⟨1, Or.inr rfl, rfl, rfl⟩
    · have : ρ 200 (96 * s + t) = 0 := by
        rcases g1 with g1 | g1
        · exact absurd (g2.mp g1) h
        · exact g1
      rw [if_neg h, this]; exact ⟨0, Or.inl rfl, rfl, rfl⟩
