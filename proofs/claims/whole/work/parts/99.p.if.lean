/-! DEEDS: if -/
/-- the model's test, behind the nots -/
def testX (x8 : Int) (σ9 : St) : Option St := (rd σ9 173 503 (σ9 170 11)).bind fun x11 => (m_X12_is 25 σ9).bind fun x12 => (if x12 = 0 then m_X12_tellTest_J51 σ9 x8 (wr (wr (x11 - 40) + 1)) else m_X12_tellTest_J51 σ9 x8 0)
def restX (x14 x8 : Int) (σ22 : St) : Option St := (if 6 ≤ x14 then m_X12_tellTest_J113 x14 x8 0 σ22 else (if x14 = 0 then (m_X12_number 3 σ22).bind fun (x30, σ31) => m_X12_tellTest_J113 x14 x8 x30 σ31 else (if x14 = 5 then (m_X12_number 95 σ22).bind fun (x28, σ29) => m_X12_tellTest_J113 x14 x8 x28 σ29 else (m_X12_number 7 σ22).bind fun (x26, σ27) => m_X12_tellTest_J113 x14 x8 x26 σ27)))
section
variable {K : Nat → Int} {P : Nat → Nat} {D : Nat → Int} {NL : Nat → List Int} {S t n m c nb : Nat} {τ τm τ' τm' : St}
theorem frest (h : Fl P τ τm) (x14 x8 : Int) : restX x14 x8 τm = some τm := by
  have hK : ∀ v : Int, m_X12_tellTest_J113 x14 x8 v τm = some τm := fun v => by rw [m_X12_tellTest_J113, fopens h, bnd_s]
  obtain ⟨v3, g3⟩ := fnum h (z := 3)
  obtain ⟨v95, g95⟩ := fnum h (z := 95)
  obtain ⟨v7, g7⟩ := fnum h (z := 7)
  rw [restX, g3, g95, g7, bnd_s, bnd_s, bnd_s]
  by_cases c1 : 6 ≤ x14
  · rw [if_pos c1]; exact hK _
  · rw [if_neg c1]
    by_cases c2 : x14 = 0
    · rw [if_pos c2]; exact hK _
    · rw [if_neg c2]
      by_cases c3 : x14 = 5
      · rw [if_pos c3]; exact hK _
      · rw [if_neg c3]; exact hK _
theorem J74_rest (x14 x8 : Int) (σ : St) : m_X12_tellTest_J74 x14 x8 σ = (m_X12_next σ).bind (restX x14 x8) := rfl
theorem fJ74 (h : Fl P τ τm) (x14 x8 : Int) : ∃ τm', m_X12_tellTest_J74 x14 x8 τm = some τm' ∧ Fl P τ τm' ∧ CurM τm τm' := by
  obtain ⟨τ1, n1, n2, n3⟩ := fnext h
  exact ⟨τ1, by rw [J74_rest, n1, bnd_s, frest n2], n2, n3⟩
theorem ftestX (h : Fl P τ τm) (x8 : Int) : ∃ τm', testX x8 τm = some τm' ∧ Fl P τ τm' ∧ CurM τm τm' := by
  obtain ⟨e, t, he, -, -, h1, -, t', h2, h3⟩ := id h
  obtain ⟨τ2, j1, j2⟩ := fJ74 h (wr (wr (τm 173 t' - 40) + 1)) x8
  refine ⟨τ2, ?_, j2⟩
  rw [testX, h2, rd_ok (by omega) (by omega), bnd_s, Int.toNat_natCast, fis h, bnd_s, if_pos rfl, m_X12_tellTest_J51, if_neg (by omega)]
  exact j1
theorem test_split (σ : St) : m_X12_tellTest σ = (lp (fun a => m_X12_tellTest_L2 a.1 a.2) (0, σ)).bind fun a => testX a.1 a.2 := rfl
/-- the nots, on both sides -/
theorem nots_sp (hT : TF K P D NL) (h : JT K P D NL t τ τm) : Hp2 (lp (fun a => m_X4_ifHead_L15 a.1 a.2.1 a.2.2) (1, 0, τ)) (lp (fun a => m_X12_tellTest_L2 a.1 a.2) (0, τm)) (fun b d =>
    (∃ x5 σ t', b = .inl (x5, σ) ∧ (x5 = 0 ∨ x5 = 1) ∧ d.1 = 1 - x5 ∧ t ≤ t' ∧ JT K P D NL t' σ d.2 ∧ K t' ≠ 16 ∧ CurC τ σ ∧ CurM τm d.2 ∧ σ 118 8 = τ 118 8 ∧ σ 118 1 = τ 118 1) ∨
    (∃ τ', b = .inr (0, τ') ∧ Fl P τ' d.2 ∧ CurC τ τ' ∧ CurM τm d.2)) := by
  have ht5 := h.1.1.2
  refine Hp2_lp (fun k (a : Int × Int × St) (c : Int × St) =>
    (∃ t', t ≤ t' ∧ k = 2 * (501 - t') ∧ (a.1 = 0 ∨ a.1 = 1) ∧ c.1 = 1 - a.1 ∧ a.2.1 = ((t' - t : Nat) : Int) ∧ JT K P D NL t' a.2.2 c.2 ∧ CurC τ a.2.2 ∧ CurM τm c.2 ∧ a.2.2 118 8 = τ 118 8 ∧ a.2.2 118 1 = τ 118 1) ∨
    (k = 1 ∧ ∃ τ', m_X4_ifHead_L15 a.1 a.2.1 a.2.2 = some (.inr (.inr (0, τ'))) ∧ Fl P τ' c.2 ∧ CurC τ τ' ∧ CurM τm c.2)) (n := 2 * (501 - t)) (Or.inl ⟨t, Nat.le_refl _, rfl, Or.inr rfl, rfl, (by show (0 : Int) = ((t - t : Nat) : Int); omega), h, CurC_rf, CurM_rf, rfl, rfl⟩) (by omega) ?_
  rintro k ⟨x5, x6, σ⟩ ⟨x2, σm⟩ hh
  rcases hh with ⟨t', h1, h2, h3, h4, h5, h6, h7, h8, h9, h10⟩ | ⟨h1, τ', h2, h3, h4, h5⟩
  · simp only at h3 h4 h5 h6 h7 h8 h9 h10
    have ht' := h6.1.1.2
    have c11 : σ 118 11 = K t' := h6.1.2.2.1.2.1
    have hi := mis hT h6.1 (a := 16) (b := 39) (by decide) rfl
    by_cases hk : K t' = 16
    · rw [if_pos hk] at hi
      rcases jnextT h6 hk (by decide) with ⟨g0, τ1, τ1m, a1, b1, j1, f1, e1, l1, z1⟩ | ⟨τ1, τ1m, a1, b1, fl, f1, e1⟩
      · have hx : ∃ y5 : Int, (y5 = 0 ∨ y5 = 1) ∧ y5 = 1 - x5 ∧ m_X4_ifHead_L15 x5 x6 σ = some (.inl (y5, ((t' + 1 - t : Nat) : Int), τ1)) := by
          have hnx : wr (x6 + 1) = ((t' + 1 - t : Nat) : Int) := by rw [h5, wr_id' (by omega) (by omega)]; omega
          rcases h3 with h3 | h3
          · refine ⟨1, Or.inr rfl, by omega, ?_⟩
            rw [m_X4_ifHead_L15, if_neg (by omega), c11, if_pos hk, a1, bnd_s]
            show (if (1 : Int) = 0 then _ else _) = _
            rw [if_neg (by decide), if_pos h3, hnx]
          · refine ⟨0, Or.inl rfl, by omega, ?_⟩
            rw [m_X4_ifHead_L15, if_neg (by omega), c11, if_pos hk, a1, bnd_s]
            show (if (1 : Int) = 0 then _ else _) = _
            rw [if_neg (by decide), if_neg (by omega), hnx]
        obtain ⟨y5, y1, y2, y3⟩ := hx
        refine Or.inr (Or.inl ⟨(y5, ((t' + 1 - t : Nat) : Int), τ1), (1 - x2, τ1m), 2 * (501 - (t' + 1)), by omega, y3, ?_, Or.inl ⟨t' + 1, by omega, rfl, y1, ?_, rfl, j1, CurC_tr h7 f1, CurM_tr h8 e1, l1.trans h9, z1.trans h10⟩⟩)
        · rw [m_X12_tellTest_L2, hi, bnd_s, if_neg (by decide), vl, bnd_s, b1, bnd_s, wr_id' (by omega) (by omega)]
        · show 1 - x2 = 1 - y5
          omega
      · refine Or.inr (Or.inr (Or.inr ⟨(1 - x2, τ1m), 1, by omega, ?_, Or.inr ⟨rfl, τ1, ?_, fl, CurC_tr h7 f1, CurM_tr h8 e1⟩⟩))
        · rw [m_X12_tellTest_L2, hi, bnd_s, if_neg (by decide), vl, bnd_s, b1, bnd_s, wr_id' (by omega) (by omega)]
        · simp only
          rw [m_X4_ifHead_L15, if_neg (by omega), c11, if_pos hk, a1, bnd_s]
          show (if (0 : Int) = 0 then _ else _) = _
          rw [if_pos rfl]
    · rw [if_neg hk] at hi
      refine Or.inl ⟨.inl (x5, σ), (x2, σm), ?_, ?_, Or.inl ⟨x5, σ, t', rfl, h3, h4, h1, h6, hk, h7, h8, h9, h10⟩⟩
      · simp only
        rw [m_X4_ifHead_L15, if_neg (by omega), c11, if_neg hk]
      · rw [m_X12_tellTest_L2, hi, bnd_s, if_pos rfl]
  · simp only at h2 h3 h5
    refine Or.inl ⟨.inr (0, τ'), (x2, σm), h2, ?_, Or.inr ⟨τ', rfl, h3, h4, h5⟩⟩
    rw [m_X12_tellTest_L2, fis h3, bnd_s, if_pos rfl]
/-- tests: word, the model's sort, the greatest int -/
def TsT (k o z : Int) : Prop := (k = 14 ∧ o = 0 ∧ z = 3) ∨ (k = 17 ∧ o = 1 ∧ z = 7) ∨ (k = 10 ∧ o = 2 ∧ z = 7) ∨ (k = 8 ∧ o = 3 ∧ z = 7) ∨ (k = 24 ∧ o = 4 ∧ z = 7) ∨ (k = 11 ∧ o = 5 ∧ z = 95) ∨ (k = 22 ∧ o = 6 ∧ z = 0)
theorem tst_all {k : Int} (h : 0 ≤ k ∧ k ≤ 30) (h16 : k ≠ 16) (σ : St) : (∃ o z, TsT k o z ∧ m_X4_mostOfTest k σ = some z ∧ z ≠ -1 ∧ ((k = 14 ∧ o = 0) ∨ (k ≠ 14 ∧ wr (wr (MK k - 40) + 1) = o))) ∨ (m_X4_mostOfTest k σ = some (-1) ∧ k ≠ 14 ∧ (wr (wr (MK k - 40) + 1) < 0 ∨ 6 < wr (wr (MK k - 40) + 1))) := by
  by_cases h1 : k = 8
  · exact Or.inl ⟨3, 7, by unfold TsT; omega, by subst h1; rfl, by decide, Or.inr ⟨by omega, by subst h1; decide +kernel⟩⟩
  by_cases h2 : k = 10
  · exact Or.inl ⟨2, 7, by unfold TsT; omega, by subst h2; rfl, by decide, Or.inr ⟨by omega, by subst h2; decide +kernel⟩⟩
  by_cases h3 : k = 11
  · exact Or.inl ⟨5, 95, by unfold TsT; omega, by subst h3; rfl, by decide, Or.inr ⟨by omega, by subst h3; decide +kernel⟩⟩
  by_cases h4 : k = 14
  · exact Or.inl ⟨0, 3, by unfold TsT; omega, by subst h4; rfl, by decide, Or.inl ⟨h4, rfl⟩⟩
  by_cases h5 : k = 17
  · exact Or.inl ⟨1, 7, by unfold TsT; omega, by subst h5; rfl, by decide, Or.inr ⟨by omega, by subst h5; decide +kernel⟩⟩
  by_cases h6 : k = 22
  · exact Or.inl ⟨6, 0, by unfold TsT; omega, by subst h6; rfl, by decide, Or.inr ⟨by omega, by subst h6; decide +kernel⟩⟩
  by_cases h7 : k = 24
  · exact Or.inl ⟨4, 7, by unfold TsT; omega, by subst h7; rfl, by decide, Or.inr ⟨by omega, by subst h7; decide +kernel⟩⟩
  refine Or.inr ⟨?_, h4, ?_⟩
  · rw [m_X4_mostOfTest, if_neg h1, if_neg h2, if_neg h3, if_neg h4, if_neg h5, if_neg h6, if_neg h7]
  · have key : ∀ a : Fin 31, a.val ≠ 16 → a.val ≠ 14 → a.val ≠ 8 → a.val ≠ 10 → a.val ≠ 11 → a.val ≠ 17 → a.val ≠ 22 → a.val ≠ 24 → (KML.getD a.val 0 < 39 ∨ 45 < KML.getD a.val 0) ∧ 0 ≤ KML.getD a.val 0 ∧ KML.getD a.val 0 ≤ 50 := by decide +kernel
    have hk := key ⟨k.toNat, by omega⟩ (by simp only; omega) (by simp only; omega) (by simp only; omega) (by simp only; omega) (by simp only; omega) (by simp only; omega) (by simp only; omega) (by simp only; omega)
    simp only at hk
    have e : MK k = KML.getD k.toNat 0 := rfl
    rw [wr_id' (x := MK k - 40) (by omega) (by omega), wr_id' (by omega) (by omega)]
    omega
theorem tst_rest {k o z : Int} (h : TsT k o z) (x8 : Int) (σ : St) : (0 ≤ o ∧ o ≤ 6) ∧ (0 ≤ k ∧ k ≤ 28) ∧ (k = 22 → restX o x8 σ = m_X12_tellTest_J113 o x8 0 σ) ∧ (k ≠ 22 → restX o x8 σ = (m_X12_number z σ).bind fun r => m_X12_tellTest_J113 o x8 r.1 r.2) := by
  rcases h with ⟨q1, q2, q3⟩ | ⟨q1, q2, q3⟩ | ⟨q1, q2, q3⟩ | ⟨q1, q2, q3⟩ | ⟨q1, q2, q3⟩ | ⟨q1, q2, q3⟩ | ⟨q1, q2, q3⟩ <;> subst q1 <;> subst q2 <;> subst q3 <;> refine ⟨by decide, by decide, ?_, ?_⟩ <;> intro q
  all_goals first | exact absurd q (by decide) | (simp only [restX, Int.reduceEq, Int.reduceLE, if_true, if_false]; rfl) | (simp only [restX, Int.reduceEq, Int.reduceLE, if_true, if_false])
theorem tst_op {k o z x5 : Int} {N p : Nat} {f : Nat → Nat} {cx : Nat → List Bool} {cd : Nat → Nat} {x : List Bool} (h : TsT k o z) (hx : x5 = 0 ∨ x5 = 1) (h1 : τ 120 p = 9) (h2 : τ 122 p = k) (h3 : τ 123 p = x5) (h4 : τm 181 (f p) = 14) (h5 : τm 182 (f p) = 2 * o + (1 - x5)) (h6 : k ≠ 22 → τm 183 (f p) = τ 121 p ∧ 0 ≤ τ 121 p ∧ τ 121 p ≤ z) (h7 : Sc N f cd p) (h8 : cx (p + 1) = cx p) (h9 : cx p = x) {a : Nat} (h10 : a = f p) : OP τ τm N f cx cd 9 a x p := by
  refine Or.inr (Or.inl ⟨rfl, h10, h9, ?_, h1, h4, h7, h8⟩)
  have hb : ∀ o' : Int, o = o' → (τ 123 p = 1 ∧ τm 182 (f p) = 2 * o') ∨ (τ 123 p = 0 ∧ τm 182 (f p) = 2 * o' + 1) := by
    intro o' ho
    rcases hx with hx | hx
    · exact Or.inr ⟨by rw [h3, hx], by rw [h5, hx, ho]; omega⟩
    · exact Or.inl ⟨by rw [h3, hx], by rw [h5, hx, ho]; omega⟩
  rcases h with ⟨q1, q2, q3⟩ | ⟨q1, q2, q3⟩ | ⟨q1, q2, q3⟩ | ⟨q1, q2, q3⟩ | ⟨q1, q2, q3⟩ | ⟨q1, q2, q3⟩ | ⟨q1, q2, q3⟩ <;> subst q1 <;> subst q2 <;> subst q3
  · exact ⟨14, 0, 3, by decide, h2, hb _ rfl, fun _ => h6 (by decide)⟩
  · exact ⟨17, 1, 7, by decide, h2, hb _ rfl, fun _ => h6 (by decide)⟩
  · exact ⟨10, 2, 7, by decide, h2, hb _ rfl, fun _ => h6 (by decide)⟩
  · exact ⟨8, 3, 7, by decide, h2, hb _ rfl, fun _ => h6 (by decide)⟩
  · exact ⟨24, 4, 7, by decide, h2, hb _ rfl, fun _ => h6 (by decide)⟩
  · exact ⟨11, 5, 95, by decide, h2, hb _ rfl, fun _ => h6 (by decide)⟩
  · exact ⟨22, 6, 0, by decide, h2, hb _ rfl, fun q => absurd rfl q⟩
theorem addIf_sp {k v g : Int} (h : τ 119 7 = (n : Int)) (hn : n < 512) : ∃ τ', m_X5_addIf 119 k v g τ = some τ' ∧ AddC n 9 v k g (-1) τ τ' := by
  obtain ⟨τ1, a1, s1, ⟨v1, v2, v3, v4, v5⟩, s7⟩ := cadd_sp (k := 9) (v := v) (w := k) h hn
  have e : m_X5_addIf 119 k v g τ = some (up τ1 123 n g) := by
    rw [m_X5_addIf, a1, bnd_s]
    show ((m_X5_isStep 119 (n : Int) τ1).bind fun x3 => (if x3 = 0 then some τ1 else (wt τ1 (119 + 4) 512 (n : Int) g).bind fun σ5 => some σ5)) = _
    rw [m_X5_isStep, if_neg (by omega), s7, if_neg (by omega), if_neg (by omega), bnd_s, if_neg (by decide), wt_ok (by omega) (by omega), bnd_s, Int.toNat_natCast]
  refine ⟨_, e, fun i j n1 n2 => ?_, ⟨?_, ?_, ?_, up_eq .., ?_⟩, ?_⟩
  · by_cases hi : i = 123
    · subst hi; rw [up_slot (by omega)]; exact s1 _ _ n1 n2
    · rw [up_cell hi]; exact s1 _ _ n1 n2
  · rw [up_cell (by decide)]; exact v1
  · rw [up_cell (by decide)]; exact v2
  · rw [up_cell (by decide)]; exact v3
  · rw [up_cell (by decide)]; exact v5
  · rw [up_cell (by decide)]; exact s7
theorem if_rd (hT : TF K P D NL) (h : IX K P D NL S t n m c nb τ τm) (hk : K t = 9) : ∃ x τ' τm', m_X4_ifHead τ = some (x, τ') ∧ m_X12_tellDeed τm = some τm' ∧ DOut K P D NL S t τ τm x τ' τm' := by
  have h0 := h
  obtain ⟨hj, ⟨g1, g2⟩, ⟨u1, ⟨u2, u3⟩, ⟨u4, u5⟩, ⟨u6, u7, u8⟩, ⟨u9, u10, u11⟩, u12, u13⟩, hB, hN, hD⟩ := h
  have ht5 := hj.1.1.2
  by_cases hn6 : nb = 6
  · subst hn6
    obtain ⟨τ', τm', a1, b1, hO⟩ := six_sp (kd := 9) hT h0 (Or.inr (Or.inl hk))
    refine ⟨0, τ', τm', ?_, b1, hO⟩
    rw [m_X4_ifHead, a1, bnd_s]
    show (if (0 : Int) = 0 then _ else _) = _
    rw [if_pos rfl]
  · have hmk : MK (K t) = 35 := by rw [hk]; rfl
    obtain ⟨τ1, o1, s1⟩ := copen (kd := 9) u9 (by omega) u2
    have j1 : JT K P D NL t τ1 τm := jt_cg hj (fun i j q => s1.1 i j (by omega) (by omega)) (fun _ _ _ => rfl)
    rw [md_blk hT hj (ix_md h0) (Or.inr (Or.inl hk)) (by omega), hmk, m_X4_ifHead, o1]
    rcases jnextT j1 hk (by decide) with ⟨g0, τ2, τ2m, a2, b2, j2, f2, e2, l2, z2⟩ | ⟨τ2, τ2m, a2, b2, fl, f2, e2⟩
    · have hmdl : (m_X12_next τm).bind (tailX 35) = ((lp (fun a => m_X12_tellTest_L2 a.1 a.2) (0, τ2m)).bind fun a => testX a.1 a.2).bind fun σ55 => some σ55 := by
        rw [b2, bnd_s, tailX, if_neg (by decide), if_pos rfl, test_split]
      rw [a2, bnd_s, bnd_s, hmdl]
      obtain ⟨b, ⟨d1, d2⟩, lc, lm, hQ⟩ := nots_sp hT j2
      rw [lm, bnd_s]
      -- the class's part behind the nots
      obtain ⟨clsX, hcX⟩ : ∃ clsX : ((Int × St) ⊕ (Int × St)) → Option (Int × St), clsX = fun b => match b with | .inl (x15, σ16) => (m_X4_mostOfTest (σ16 118 11) σ16).bind fun x18 => (if x18 = (-1) then (m_X4_fail 1 σ16).bind fun (x29, σ30) => some (x29, σ30) else (m_X4_accept (σ16 118 11) σ16).bind fun (x20, σ21) => (if x20 = 0 then some (0, σ21) else (m_X5_addIf 119 (σ16 118 11) (σ21 118 13) x15 σ21).bind fun σ24 => (if σ16 118 11 = 22 then some (1, σ24) else (m_X4_acceptNumber x18 σ24).bind fun (x26, σ27) => (if x26 = 0 then some (0, σ27) else some (1, σ27))))) | .inr q => some q := ⟨_, rfl⟩
      have hcls : (match ((1 : Int), τ2) with | (x1, σ2) => (if x1 = 0 then some ((0 : Int), σ2) else ((lp (fun a => m_X4_ifHead_L15 a.1 a.2.1 a.2.2) (1, 0, σ2)).bind clsX))) = clsX b := by
        show (if (1 : Int) = 0 then _ else _) = _
        rw [if_neg (by decide), lc, bnd_s]
      have goalX : (∃ x τ' τm', clsX b = some (x, τ') ∧ ((testX d1 d2).bind fun σ55 => some σ55) = some τm' ∧ DOut K P D NL S t τ τm x τ' τm') → ∃ x τ' τm', (match ((1 : Int), τ2) with | (x1, σ2) => (if x1 = 0 then some ((0 : Int), σ2) else ((lp (fun a => m_X4_ifHead_L15 a.1 a.2.1 a.2.2) (1, 0, σ2)).bind fun b => match b with | .inl (x15, σ16) => (m_X4_mostOfTest (σ16 118 11) σ16).bind fun x18 => (if x18 = (-1) then (m_X4_fail 1 σ16).bind fun (x29, σ30) => some (x29, σ30) else (m_X4_accept (σ16 118 11) σ16).bind fun (x20, σ21) => (if x20 = 0 then some (0, σ21) else (m_X5_addIf 119 (σ16 118 11) (σ21 118 13) x15 σ21).bind fun σ24 => (if σ16 118 11 = 22 then some (1, σ24) else (m_X4_acceptNumber x18 σ24).bind fun (x26, σ27) => (if x26 = 0 then some (0, σ27) else some (1, σ27))))) | .inr q => some q))) = some (x, τ') ∧ ((testX d1 d2).bind fun σ55 => some σ55) = some τm' ∧ DOut K P D NL S t τ τm x τ' τm' := by
        rintro ⟨x, τ', τm', q1, q2, q3⟩
        refine ⟨x, τ', τm', ?_, q2, q3⟩
        rw [← hcX]
        exact hcls.trans q1
      refine goalX ?_
      rcases hQ with ⟨x5, σ, t', hb, hx5, hd, htt, j3, k16, f3, e3, l3, z3⟩ | ⟨τ', hb, fl, f3, e3⟩
      · simp only at hd j3 e3
        have ht' := j3.1.1.2
        have c11 : σ 118 11 = K t' := j3.1.2.2.1.2.1
        have hK := hT.1 t'
        obtain ⟨ta, -⟩ := j3.1.2.1.2 t' ht' j3.1.1.1
        have htest : testX d1 d2 = (if K t' = 14 then m_X12_tellTest_J51 d2 d1 0 else m_X12_tellTest_J51 d2 d1 (wr (wr (MK (K t') - 40) + 1))) := by
          rw [testX, j3.1.2.2.2.1, rd_ok (by omega) (by omega), bnd_s, Int.toNat_natCast, mis hT j3.1 (a := 14) (b := 25) (by decide) rfl, bnd_s, ta]
          by_cases h14 : K t' = 14
          · rw [if_pos h14, if_pos h14, if_neg (by decide)]
          · rw [if_neg h14, if_neg h14, if_pos rfl]
        have h12 : d2 170 12 = 0 := j3.1.2.2.2.2
        rw [hb, hcX, htest]
        simp only
        rw [c11]
        rcases tst_all hK k16 σ with ⟨o, z, q1, q2, q3, q4⟩ | ⟨q1, q2, q3⟩
        · -- a test's word
          obtain ⟨r1, r2, r3, r4⟩ := tst_rest q1 d1 d2
          have hJ : (if K t' = 14 then m_X12_tellTest_J51 d2 d1 0 else m_X12_tellTest_J51 d2 d1 (wr (wr (MK (K t') - 40) + 1))) = (m_X12_next d2).bind (restX o d1) := by
            have h51 : m_X12_tellTest_J51 d2 d1 o = (m_X12_next d2).bind (restX o d1) := by
              rw [m_X12_tellTest_J51, h12, if_pos rfl, if_neg (by omega), if_pos (by omega), J74_rest]
            rcases q4 with ⟨y1, y2⟩ | ⟨y1, y2⟩
            · rw [if_pos y1, ← y2]; exact h51
            · rw [if_neg y1, y2]; exact h51
          rw [q2, bnd_s, if_neg q3, hJ]
          rcases jnextT j3 rfl r2.2 with ⟨g4, τ4, τ4m, a4, b4, j4, f4, e4, l4, z4⟩ | ⟨τ4, τ4m, a4, b4, fl, f4, e4⟩
          · have f24 : CurC τ1 τ4 := CurC_tr (CurC_tr f2 f3) f4
            obtain ⟨τ5, a5, s5⟩ := addIf_sp (k := K t') (v := τ4 118 13) (g := x5) (τ := τ4) (n := n) (by rw [f24 _ _ (by omega), s1.1 _ _ (by omega) (by omega)]; exact u2) (by omega)
            have j5 : JT K P D NL (t' + 1) τ5 τ4m := jt_cg j4 (fun i j q => s5.1 i j (by omega) (by omega)) (fun _ _ _ => rfl)
            have hl1 : τ5 118 8 = τ 118 8 := by rw [s5.1 _ _ (by omega) (by omega), l4, l3, l2, s1.1 _ _ (by omega) (by omega)]
            have hz1 : τ5 118 1 = 0 := by rw [s5.1 _ _ (by omega) (by omega), z4, z3, z2, s1.1 _ _ (by omega) (by omega)]; exact g1
            rw [a4, b4, bnd_s, bnd_s]
            by_cases k22 : K t' = 22
            · have cur : CurM τm τ4m := CurM_tr (CurM_tr e2 e3) e4
              obtain ⟨τ7m, b7, s7, q7⟩ := opens_sp (s := 2) (o := 14) (a := wr (wr (2 * o) + d1)) (b := 0) (τm := τ4m) (nb := nb) (i := 1000 * S + m) j4.1.2.2.2.2 (by rw [cur _ _ (by omega)]; exact u11) (by omega) (by rw [cur _ _ (by omega)]; exact u4) (by omega)
              have sC : StCo n nb 9 9 (τ4 118 13) (K t') x5 (-1) τ τ5 := stco_mk s1 f24 s5 CurC_rf
              have sM := stmo_mk cur s7
              refine ⟨1, τ5, τ7m, ?_, ?_, FrCp_co sC, FrS_mo sM (by omega), Or.inr ⟨rfl, t' + 1, by omega, Or.inl ⟨n + 1, m + 1, c, nb + 1, ix_open h0 (jt_cg j5 (fun _ _ _ => rfl) q7) hz1 (by omega) sC sM (by omega) (Or.inr (Or.inl ⟨rfl, rfl⟩)) ?_⟩⟩⟩
              · show (if (1 : Int) = 0 then _ else _) = _
                rw [if_neg (by decide), a5, bnd_s, if_pos k22]
              · rw [(tst_rest q1 d1 τ4m).2.2.1 k22, m_X12_tellTest_J113, b7, bnd_s, bnd_s]
              · intro q
                refine ⟨by rw [← hl1]; exact q, fun f' cx' cd' y1 y2 y3 y4 => ?_⟩
                obtain ⟨-, ⟨v1, v2, v3, v4, -⟩, -, -, v6, -⟩ := sC
                obtain ⟨-, ⟨w1, w2, w3⟩, -⟩ := sM
                have hcx : cx' (n + 1) = cx' n := by
                  rw [y3, y4]
                  show (if τ5 127 nb = 13 then _ else _) = _
                  rw [v6, if_neg (by decide), if_neg (by decide)]
                exact tst_op q1 hx5 v1 v3 v4 (by rw [y1, w1]) (by rw [y1, w2, wr_id' (x := 2 * o) (by omega) (by omega), wr_id' (by omega) (by omega), hd]) (fun q => absurd k22 q) y2 hcx y4 y1.symm
            · have hm3 : (m_X12_number z τ4m).bind (fun r => m_X12_tellTest_J113 o d1 r.1 r.2) = restX o d1 τ4m := ((tst_rest q1 d1 τ4m).2.2.2 k22).symm
              rw [← hm3]
              have hcl5 : (match ((1 : Int), τ4) with | (x20, σ21) => (if x20 = 0 then some ((0 : Int), σ21) else (m_X5_addIf 119 (K t') (σ21 118 13) x5 σ21).bind fun σ24 => (if K t' = 22 then some ((1 : Int), σ24) else (m_X4_acceptNumber z σ24).bind fun (x26, σ27) => (if x26 = 0 then some ((0 : Int), σ27) else some ((1 : Int), σ27))))) = (m_X4_acceptNumber z τ5).bind fun (x26, σ27) => (if x26 = 0 then some ((0 : Int), σ27) else some ((1 : Int), σ27)) := by
                show (if (1 : Int) = 0 then _ else _) = _
                rw [if_neg (by decide), a5, bnd_s, if_neg k22]
              rcases jnum hT j5 (z := z) with ⟨⟨k27, -⟩, τ6, τ6m, a6, b6, j6, f6, e6, l6, z6⟩ | ⟨v, τ6, τ6m, a6, b6, fl, f6, e6⟩
              · have cur : CurM τm τ6m := CurM_tr (CurM_tr (CurM_tr e2 e3) e4) e6
                have hv : τ4 118 13 = D (t' + 1) := j4.1.2.2.1.2.2.2.1 k27
                obtain ⟨τ7m, b7, s7, q7⟩ := opens_sp (s := 2) (o := 14) (a := wr (wr (2 * o) + d1)) (b := D (t' + 1)) (τm := τ6m) (nb := nb) (i := 1000 * S + m) j6.1.2.2.2.2 (by rw [cur _ _ (by omega)]; exact u11) (by omega) (by rw [cur _ _ (by omega)]; exact u4) (by omega)
                have sC : StCo n nb 9 9 (D (t' + 1)) (K t') x5 (-1) τ τ6 := by rw [← hv]; exact stco_mk s1 f24 s5 f6
                have sM := stmo_mk cur s7
                refine ⟨1, τ6, τ7m, ?_, ?_, FrCp_co sC, FrS_mo sM (by omega), Or.inr ⟨rfl, t' + 2, by omega, Or.inl ⟨n + 1, m + 1, c, nb + 1, ix_open h0 (jt_cg j6 (fun _ _ _ => rfl) q7) (by rw [z6]; exact hz1) (by omega) sC sM (by omega) (Or.inr (Or.inl ⟨rfl, rfl⟩)) ?_⟩⟩⟩
                · refine Eq.trans hcl5 ?_
                  rw [a6, bnd_s]
                  show (if (1 : Int) = 0 then _ else _) = _
                  rw [if_neg (by decide)]
                · rw [b6, bnd_s]
                  show (m_X12_tellTest_J113 o d1 (D (t' + 1)) τ6m).bind _ = _
                  rw [m_X12_tellTest_J113, b7, bnd_s, bnd_s]
                · intro q
                  have q8 := l6 q
                  refine ⟨by rw [← hl1]; exact q8.1, fun f' cx' cd' y1 y2 y3 y4 => ?_⟩
                  obtain ⟨-, ⟨v1, v2, v3, v4, -⟩, -, -, v6, -⟩ := sC
                  obtain ⟨-, ⟨w1, w2, w3⟩, -⟩ := sM
                  have hdd := (hT.2.2.2 (t' + 1) k27).1
                  have hcx : cx' (n + 1) = cx' n := by
                    rw [y3, y4]
                    show (if τ6 127 nb = 13 then _ else _) = _
                    rw [v6, if_neg (by decide), if_neg (by decide)]
                  exact tst_op q1 hx5 v1 v3 v4 (by rw [y1, w1]) (by rw [y1, w2, wr_id' (x := 2 * o) (by omega) (by omega), wr_id' (by omega) (by omega), hd]) (fun _ => ⟨by rw [y1, w3, v2], by rw [v2]; exact hdd, by rw [v2]; exact q8.2⟩) y2 hcx y4 y1.symm
              · refine ⟨0, τ6, τ6m, ?_, ?_, FrCp_tr (FrCp_tr (FrCp_tr (FrCp_od s1) (FrCp_cur f24)) (FrCp_add s5)) (FrCp_cur f6), FrS_cur (CurM_tr (CurM_tr (CurM_tr e2 e3) e4) e6), Or.inl ⟨rfl, fl⟩⟩
                · refine Eq.trans hcl5 ?_
                  rw [a6, bnd_s]
                  show (if (0 : Int) = 0 then _ else _) = _
                  rw [if_pos rfl]
                · rw [b6, bnd_s]
                  show (m_X12_tellTest_J113 o d1 v τ6m).bind _ = _
                  rw [m_X12_tellTest_J113, fopens fl, bnd_s, bnd_s]
          · refine ⟨0, τ4, τ4m, ?_, ?_, FrCp_tr (FrCp_od s1) (FrCp_cur (CurC_tr (CurC_tr f2 f3) f4)), FrS_cur (CurM_tr (CurM_tr e2 e3) e4), Or.inl ⟨rfl, fl⟩⟩
            · rw [a4, bnd_s]
              show (if (0 : Int) = 0 then _ else _) = _
              rw [if_pos rfl]
            · rw [b4, bnd_s, frest fl, bnd_s]
        · -- no test's word
          obtain ⟨τ4, τ4m, a4, b4, fl, f4, e4⟩ := jfail j3.1 (e := 1) (Or.inl rfl)
          obtain ⟨τ5m, b5, fl5, e5⟩ := fJ74 fl (wr (wr (MK (K t') - 40) + 1)) d1
          refine ⟨0, τ4, τ5m, ?_, ?_, FrCp_tr (FrCp_od s1) (FrCp_cur (CurC_tr (CurC_tr f2 f3) f4)), FrS_cur (CurM_tr (CurM_tr (CurM_tr e2 e3) e4) e5), Or.inl ⟨rfl, fl5⟩⟩
          · rw [q1, bnd_s, if_pos rfl, a4, bnd_s]
          · rw [if_neg q2, m_X12_tellTest_J51, h12, if_pos rfl]
            rcases q3 with q3 | q3
            · rw [if_pos q3, b4, bnd_s, b5, bnd_s]
            · rw [if_neg (by omega), if_neg (by omega), b4, bnd_s, b5, bnd_s]
      · obtain ⟨τ5m, b5, fl5, e5⟩ := ftestX fl d1
        refine ⟨0, τ', τ5m, ?_, ?_, FrCp_tr (FrCp_od s1) (FrCp_cur (CurC_tr f2 f3)), FrS_cur (CurM_tr (CurM_tr e2 e3) e5), Or.inl ⟨rfl, fl5⟩⟩
        · rw [hb, hcX]
        · simp only at b5
          rw [b5, bnd_s]
    · obtain ⟨τ3m, b3, fl2, e3⟩ := ftail fl (x2 := 35)
      refine ⟨0, τ2, τ3m, ?_, ?_, FrCp_tr (FrCp_od s1) (FrCp_cur f2), FrS_cur (CurM_tr e2 e3), Or.inl ⟨rfl, fl2⟩⟩
      · rw [a2, bnd_s, bnd_s]
        show (if (0 : Int) = 0 then _ else _) = _
        rw [if_pos rfl]
      · rw [b2, bnd_s, b3]
end
