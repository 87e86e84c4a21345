/-! CODES: the beginning of one, its deeds, all of them -/
section
variable {K : Nat → Int} {P : Nat → Nat} {D : Nat → Int} {NL : Nat → List Int} {S t n m c nb : Nat} {τ τm τ' τm' : St}
/-- what the model does behind the deeds of a code -/
def codeX (σ41 : St) : Option St := (if σ41 170 12 = 0 then (rd σ41 178 2 (σ41 170 18)).bind fun x45 => (wt σ41 178 2 (σ41 170 18) (wr (x45 + 1))).bind fun σ46 => some σ46 else some σ41)
theorem names_m {i0 : Nat} {σ8 W : St} {x : Int} (hS : S < 2) (hc : c ≤ 8) (h8 : σ8 170 11 = (i0 : Int)) (hi0 : i0 ≤ 500) (hx : τm 176 i0 = x) (hW : m_X12_wrong 3 (i0 : Int) τm = some W) (hW2 : m_X12_wrong 3 (i0 : Int) W = some W) (hf : ∀ k j, ¬ (k = 170 ∧ (j = 14 ∨ j = 15)) → W k j = τm k j) :
    Hp (lp (fun a => m_X12_tellCode_L78 ((8 * S + c : Nat) : Int) σ8 a.1 a.2) (((8 * S : Nat) : Int), τm)) (fun σ => ((∀ i, i < c → τm 179 (8 * S + i) ≠ x) ∧ σ = τm) ∨ ((∃ i, i < c ∧ τm 179 (8 * S + i) = x) ∧ σ = W)) := by
  refine Hp_up (fun j (z : Int × St) => z.1 = ((8 * S + j : Nat) : Int) ∧ (((∀ i, i < j → τm 179 (8 * S + i) ≠ x) ∧ z.2 = τm) ∨ ((∃ i, i < j ∧ τm 179 (8 * S + i) = x) ∧ z.2 = W))) 0 c (by omega) (Nat.zero_le _) ⟨rfl, Or.inl ⟨fun i hi => by omega, rfl⟩⟩ ?_ ?_
  · rintro j ⟨z, σ⟩ - hj ⟨e1, e2⟩
    simp only at e1 e2
    subst e1
    have v179 : ∀ i, σ 179 i = τm 179 i := fun i => by
      rcases e2 with ⟨-, e⟩ | ⟨-, e⟩
      · rw [e]
      · rw [e]; exact hf _ _ (by omega)
    have v176 : σ 176 i0 = x := by
      rcases e2 with ⟨-, e⟩ | ⟨-, e⟩
      · rw [e]; exact hx
      · rw [e, hf _ _ (by omega)]; exact hx
    simp only [m_X12_tellCode_L78]
    rw [if_neg (by omega), rd_ok (by omega) (by omega), bnd_s, Int.toNat_natCast, v179, h8, rd_ok (by omega) (by omega), bnd_s, Int.toNat_natCast, v176, nx1 (by omega)]
    by_cases hq : τm 179 (8 * S + j) = x
    · have hw : m_X12_wrong 3 (i0 : Int) σ = some W := by
        rcases e2 with ⟨-, e⟩ | ⟨-, e⟩
        · rw [e]; exact hW
        · rw [e]; exact hW2
      rw [if_pos (lc0.mpr hq), hw, bnd_s, Hp_some, Lq_inl]
      exact ⟨rfl, Or.inr ⟨⟨j, by omega, hq⟩, rfl⟩⟩
    · rw [if_neg (fun q => hq (lc0.mp q)), Hp_some, Lq_inl]
      refine ⟨rfl, ?_⟩
      rcases e2 with ⟨e2, e3⟩ | ⟨⟨i, e2, e4⟩, e3⟩
      · refine Or.inl ⟨fun i hi => ?_, e3⟩
        by_cases hij : i = j
        · rw [hij]; exact hq
        · exact e2 i (by omega)
      · exact Or.inr ⟨⟨i, by omega, e4⟩, e3⟩
  · rintro ⟨z, σ⟩ ⟨e1, e2⟩
    simp only at e1 e2
    subst e1
    simp only [m_X12_tellCode_L78]
    rw [if_pos (Int.le_refl _), Hp_some, Lq_inr]
    exact e2
theorem begin_c {x : Int} (h8 : τ 119 8 = (c : Int)) (hc : c < 8) (h7 : τ 119 7 = (n : Int)) : m_X5_beginCode 119 x τ = some (up (up τ 125 c x) 126 c (n : Int)) := by
  rw [m_X5_beginCode, h8, if_neg (by omega), wt_ok (by omega) (by omega), bnd_s, Int.toNat_natCast]
  show ((wt (up τ 125 c x) 126 8 ((up τ 125 c x) 119 8) ((up τ 125 c x) 119 7)).bind fun σ7 => some σ7) = _
  rw [up_cell (k' := 119) (by decide), up_cell (k' := 119) (by decide), h8, h7, wt_ok (by omega) (by omega), bnd_s, Int.toNat_natCast]
theorem code_begin (hT : TF K P D NL) (h : EX K P D NL S t n m c c τ τm) (hk : K t ≠ 29) :
    (∃ τ' τm', m_X4_codeOrOver τ = some (0, τ') ∧ m_X12_tellCode τm = some τm' ∧ Fl P τ' τm' ∧ FrCp τ τ' ∧ FrS S τm τm') ∨
    (∃ τ' τm1, m_X4_codeOrOver τ = some (1, τ') ∧ m_X12_tellCode τm = (lp (fun a => m_X12_tellCode_L145 a) τm1).bind codeX ∧ IX K P D NL S (t + 2) n m c 0 τ' τm1 ∧ FrCp τ τ' ∧ FrS S τm τm1) := by
  obtain ⟨hj, ⟨g1, g2, g3⟩, ⟨u1, ⟨u2, u3⟩, ⟨u4, u5⟩, ⟨u6, u7, u8⟩, u13⟩, hN, hD⟩ := h
  have ht5 := hj.1.1.2
  have c11 : τ 118 11 = K t := hj.1.2.2.1.2.1
  have hi := mis hT hj.1 (a := 2) (b := 20) (by decide) rfl
  -- once a fault is found
  have flend : ∀ τ' τx : St, Fl P τ' τx → ∀ τy : St, m_X12_must 20 τy = some τx → m_X12_tellCode_J28 τy = some τx := by
    intro τ' τx fl τy hy
    have fl0 := fl
    obtain ⟨e, t', he, -, -, he2, -⟩ := fl
    rw [m_X12_tellCode_J28, hy, bnd_s, fmust fl0, bnd_s, if_neg (by omega)]
  have hmd : ¬ (K t = 2 ∧ c = 8) → m_X12_tellCode τm = m_X12_tellCode_J28 τm := by
    intro q
    rw [m_X12_tellCode, hi, bnd_s]
    by_cases h2 : K t = 2
    · rw [if_pos h2, if_neg (by decide), u13, rd_ok (by omega) (by omega), bnd_s, Int.toNat_natCast, u7, if_neg (by omega)]
    · rw [if_neg h2, if_pos rfl]
  have hcl : ¬ (K t = 2 ∧ c = 8) → m_X4_codeOrOver τ = m_X4_codeOrOver_J37 τ := by
    intro q
    rw [m_X4_codeOrOver, c11, if_neg hk]
    by_cases h2 : K t = 2
    · rw [if_pos h2, u6, if_pos (by omega)]
    · rw [if_neg h2]
  by_cases h28 : K t = 2 ∧ c = 8
  · obtain ⟨τ', τm', a1, b1, fl, f1, e1⟩ := jfail hj.1 (e := 2) (Or.inr rfl)
    refine Or.inl ⟨τ', τm', ?_, ?_, fl, FrCp_cur f1, FrS_cur e1⟩
    · rw [m_X4_codeOrOver, c11, if_neg hk, if_pos h28.1, u6, if_neg (by omega), a1, bnd_s]
    · rw [m_X12_tellCode, hi, bnd_s, if_pos h28.1, if_neg (by decide), u13, rd_ok (by omega) (by omega), bnd_s, Int.toNat_natCast, u7, if_pos (by omega), b1, bnd_s]
      exact flend τ' τm' fl τm' (fmust fl)
  · rw [hmd h28, hcl h28]
    rcases jaccT hT hj (a := 2) (b := 20) (by decide) rfl with ⟨⟨k2, g0⟩, τ1, τ1m, a1, b1, j1, f1, e1, l1, z1⟩ | ⟨τ1, τ1m, a1, b1, fl, f1, e1⟩
    · have c8 : c < 8 := by omega
      have u6' : τ1 119 8 = (c : Int) := by rw [f1 _ _ (by omega)]; exact u6
      have u2' : τ1 119 7 = (n : Int) := by rw [f1 _ _ (by omega)]; exact u2
      obtain ⟨y, hy, hyL⟩ := named_c (x := τ1 118 14) (c := c) (τ := τ1) u6' (by omega)
      have c11' : τ1 118 11 = K (t + 1) := j1.1.2.2.1.2.1
      have t11 : τ1m 170 11 = ((t + 1 : Nat) : Int) := j1.1.2.2.2.1
      have hcls0 : m_X4_codeOrOver_J37 τ = (if τ1 118 11 = 26 then (if y = (-1) then m_X4_codeOrOver_J76 τ1 else (m_X4_failLater 3 τ1).bind fun σ17 => m_X4_codeOrOver_J76 σ17) else m_X4_codeOrOver_J76 τ1) := by
        rw [m_X4_codeOrOver_J37, a1, bnd_s]
        show (if (1 : Int) = 0 then _ else _) = _
        rw [if_neg (by decide), hy, bnd_s]
      -- from τw on, where the class notes the code and takes its name
      have rest : ∀ τw : St, (∀ k j, ¬ (k = 118 ∧ (j = 8 ∨ j = 9)) → τw k j = τ1 k j) → m_X4_codeOrOver_J37 τ = m_X4_codeOrOver_J76 τw → (K (t + 1) = 26 → (y = -1 ∧ τw = τ1) ∨ (y ≠ -1 ∧ m_X4_failLater 3 τ1 = some τw ∧ τw 118 8 ≠ 0)) →
          (∃ τ' τm', m_X4_codeOrOver_J37 τ = some (0, τ') ∧ m_X12_tellCode_J28 τm = some τm' ∧ Fl P τ' τm' ∧ FrCp τ τ' ∧ FrS S τm τm') ∨
          (∃ τ' τm1, m_X4_codeOrOver_J37 τ = some (1, τ') ∧ m_X12_tellCode_J28 τm = (lp (fun a => m_X12_tellCode_L145 a) τm1).bind codeX ∧ IX K P D NL S (t + 2) n m c 0 τ' τm1 ∧ FrCp τ τ' ∧ FrS S τm τm1) := by
        intro τw hw hcls hcase
        obtain ⟨τd, hτd⟩ : ∃ τd, τd = up (up (up τw 125 c (τw 118 14)) 126 c (n : Int)) 118 7 1 := ⟨_, rfl⟩
        have fd : ∀ k j, ¬ (k = 125 ∧ j = c) → ¬ (k = 126 ∧ j = c) → ¬ (k = 118 ∧ j = 7) → τd k j = τw k j := fun k j n1 n2 n3 => by
          rw [hτd]
          unfold up
          rw [if_neg (by omega), if_neg (by omega), if_neg (by omega)]
        have hcls2 : m_X4_codeOrOver_J37 τ = (m_X4_accept 26 τd).bind fun (x22, σ23) => some (x22, σ23) := by
          rw [hcls, m_X4_codeOrOver_J76, begin_c (by rw [hw _ _ (by omega)]; exact u6') c8 (by rw [hw _ _ (by omega)]; exact u2'), bnd_s, pt_s, bnd_s, ← hτd]
        have jd : JC K P D NL (t + 1) τd τ1m := jc_cg j1.1 (fun k j q => (fd k j (by omega) (by omega) (by omega)).trans (hw k j (by omega))) (fun _ _ _ => rfl)
        have frd : FrCp τ τd := fun k j q => ((fd k j (by omega) (by omega) (by omega)).trans (hw k j (by omega))).trans (f1 k j (by omega))
        rw [hcls2]
        rcases jacc hT jd (a := 26) (b := 1) (by decide) rfl with ⟨⟨k26, -⟩, τ2, τ2m, a2, b2, j2, f2, e2, p2, z2⟩ | ⟨τ2, τ2m, a2, b2, fl, f2, e2⟩
        · have ht6 := j2.1.2
          have cur : CurM τm τ2m := CurM_tr e1 e2
          have hok := hT.2.2.1 (t + 1) k26
          have e176 : τ2m 176 (t + 1) = nB 27 (NL (t + 1)) := (j2.2.1.2 (t + 1) (by omega) jd.1.1).2.2.2 k26
          have e14 : τ1 118 14 = nB 32 (NL (t + 1)) := j1.1.2.2.1.2.2.2.2 k26
          have hP1 : τ1 118 12 = (P (t + 1) : Int) := j1.1.2.2.1.2.2.1
          have lt1 : LT P (t + 1) τ1 τ2m := lt_kp j1.2 ⟨rfl, rfl, p2.2.2.1, p2.2.2.2⟩ (Nat.le_refl _)
          obtain ⟨τv, W, v1, v2, v3, v4, v5, v6, v7⟩ := jwrong (e := 3) (τ := τ1) (τm := τ2m) hT jd.1.1 jd.1.2 j2.2.1.2 j2.2.2.2.2 hP1 lt1 (by decide)
          obtain ⟨τ3m, o3, hcs⟩ := names_m (S := S) (c := c) (σ8 := τ1m) (τm := τ2m) u1 (by omega) t11 (by omega) e176 v2 v7 v6
          -- the model's state behind the names
          have h3 : ((y = -1 ∧ τw = τ1) ∧ τ3m = τ2m) ∨ (τw = τv ∧ τ3m = W) := by
            have hmm : ∀ i, i < c → (τ1 125 i = τ1 118 14 ↔ τ2m 179 (8 * S + i) = nB 27 (NL (t + 1))) := fun i hi => by
              rw [e14, f1 125 _ (by omega), cur 179 _ (by omega)]
              exact nms_iff hN hok hi
            rcases hcase k26 with ⟨q1, q2⟩ | ⟨q1, q2, q3⟩
            · rcases hcs with ⟨-, s2⟩ | ⟨⟨i, s1, s3⟩, -⟩
              · exact Or.inl ⟨⟨q1, q2⟩, s2⟩
              · exfalso
                rcases hyL with ⟨-, r2⟩ | ⟨i', r1, -⟩
                · exact r2 i s1 ((hmm i s1).mpr s3)
                · omega
            · rcases hcs with ⟨s1, -⟩ | ⟨-, s2⟩
              · exfalso
                rcases hyL with ⟨r1, -⟩ | ⟨i', r1, r2, r3, -⟩
                · exact q1 r1
                · exact s1 i' r2 ((hmm i' r2).mp r3)
              · exact Or.inr ⟨Option.some.inj (q2.symm.trans v1), s2⟩
          have f3 : ∀ k j, ¬ (k = 170 ∧ (j = 14 ∨ j = 15)) → τ3m k j = τ2m k j := by
            rcases h3 with ⟨-, q⟩ | ⟨-, q⟩
            · intro k j _; rw [q]
            · intro k j n1; rw [q]; exact v6 k j n1
          have cur3 : CurM τm τ3m := CurM_tr cur (fun k j q => f3 k j (by omega))
          have lt3 : LT P (t + 2) τ2 τ3m := by
            rcases h3 with ⟨⟨-, q1⟩, q2⟩ | ⟨q1, q2⟩
            · rw [q2]
              refine lt_kp (lt_kp j1.2 (τ' := τd) (τm' := τ1m) ⟨?_, ?_, rfl, rfl⟩ (Nat.le_refl _)) p2 (by omega)
              · rw [fd _ _ (by omega) (by omega) (by omega), q1]
              · rw [fd _ _ (by omega) (by omega) (by omega), q1]
            · rw [q2]
              refine lt_kp v3 ⟨?_, ?_, rfl, rfl⟩ (Nat.le_refl _)
              · rw [p2.1, fd _ _ (by omega) (by omega) (by omega), q1]
              · rw [p2.2.1, fd _ _ (by omega) (by omega) (by omega), q1]
          obtain ⟨τ4m, hτ4⟩ : ∃ τ4m, τ4m = up (up (up (up τ3m 179 (8 * S + c) (nB 27 (NL (t + 1)))) 180 (8 * S + c) ((1000 * S + m : Nat) : Int)) 170 27 1) 185 0 0 := ⟨_, rfl⟩
          have f4 : ∀ k j, ¬ ((k = 179 ∨ k = 180) ∧ j = 8 * S + c) → ¬ (k = 170 ∧ j = 27) → ¬ (k = 185 ∧ j = 0) → τ4m k j = τ3m k j := fun k j n1 n2 n3 => by
            rw [hτ4]
            unfold up
            rw [if_neg (by omega), if_neg (by omega), if_neg (by omega), if_neg (by omega)]
          have hw16 : wr (wr (8 * (S : Int)) + (c : Int)) = ((8 * S + c : Nat) : Int) := ix8 (by omega) (by omega)
          have hw18 : wr (8 * (S : Int)) = ((8 * S : Nat) : Int) := by rw [wr_id' (by omega) (by omega)]; omega
          have hmdl : m_X12_tellCode_J28 τm = (lp (fun a => m_X12_tellCode_L145 a) τ4m).bind codeX := by
            have e22 : ∀ x : Int, (up τ3m 179 (8 * S + c) x) 170 22 = ((1000 * S + m : Nat) : Int) := fun x => by rw [up_cell (by decide), cur3 _ _ (by omega)]; exact u4
            rw [m_X12_tellCode_J28, b1, bnd_s, b2, bnd_s, j2.2.2.2.2, if_pos (Int.le_refl _), cur 170 18 (by omega), u13, rd_ok (by omega) (by omega), bnd_s, Int.toNat_natCast, cur 178 S (by omega), u7, vl, bnd_s, vl, bnd_s, hw16, hw18, o3, bnd_s, t11, rd_ok (by omega) (by omega), bnd_s, Int.toNat_natCast, f3 176 _ (by omega), e176, wt_ok (by omega) (by omega), bnd_s, Int.toNat_natCast, e22, wt_ok (by omega) (by omega), bnd_s, Int.toNat_natCast, pt_s, bnd_s, wt_ok (by decide) (by decide), bnd_s]
            rw [show (0 : Int).toNat = 0 from rfl, ← hτ4]
            rfl
          refine Or.inr ⟨τ2, τ4m, ?_, hmdl, ⟨⟨jc_cg j2 (fun _ _ _ => rfl) (fun k j q => (f4 k j (by omega) (by omega) (by omega)).trans (f3 k j (by omega))), ?_⟩, ⟨?_, ?_⟩, ⟨u1, ⟨?_, by omega⟩, ⟨?_, by omega⟩, ⟨?_, ?_, c8⟩, ⟨?_, Nat.zero_le _, ?_⟩, ?_, ?_⟩, fun j hj => absurd hj (Nat.not_lt_zero _), fun i hi => ?_, fun q => ?_⟩, FrCp_tr frd (FrCp_cur f2), fun k j n1 n2 n3 n4 n5 => (f4 k j (by omega) (by omega) (by omega)).trans (cur3 k j (by omega))⟩
          · rw [a2, bnd_s]
          · exact lt_kp lt3 ⟨rfl, rfl, f4 _ _ (by omega) (by omega) (by omega), f4 _ _ (by omega) (by omega) (by omega)⟩ (Nat.le_refl _)
          · rw [z2, fd _ _ (by omega) (by omega) (by omega), hw _ _ (by omega), z1]; exact g1
          · rw [f2 _ _ (by omega), hτd, up_eq]
          · rw [f2 _ _ (by omega), fd _ _ (by omega) (by omega) (by omega), hw _ _ (by omega)]; exact u2'
          · rw [f4 _ _ (by omega) (by omega) (by omega), cur3 _ _ (by omega)]; exact u4
          · rw [f2 _ _ (by omega), fd _ _ (by omega) (by omega) (by omega), hw _ _ (by omega)]; exact u6'
          · rw [f4 _ _ (by omega) (by omega) (by omega), cur3 _ _ (by omega)]; exact u7
          · rw [f2 _ _ (by omega), fd _ _ (by omega) (by omega) (by omega), hw _ _ (by omega), f1 _ _ (by omega)]; exact g3
          · rw [hτ4, up_cell (by decide), up_eq]; rfl
          · rw [hτ4, up_eq]
          · rw [f4 _ _ (by omega) (by omega) (by omega), cur3 _ _ (by omega)]; exact u13
          · by_cases hic : i = c
            · subst hic
              refine ⟨NL (t + 1), hok, ?_, ?_⟩
              · rw [f2 _ _ (by omega), hτd, up_cell (by decide), up_cell (by decide), up_eq, hw _ _ (by omega)]; exact e14
              · rw [hτ4, up_cell (by decide), up_cell (by decide), up_cell (by decide), up_eq]
            · obtain ⟨l, l1, l2, l3⟩ := hN i (by omega)
              refine ⟨l, l1, ?_, ?_⟩
              · rw [f2 _ _ (by omega), fd _ _ (by omega) (by omega) (by omega), hw _ _ (by omega), f1 _ _ (by omega)]; exact l2
              · rw [f4 _ _ (by omega) (by omega) (by omega), cur3 _ _ (by omega)]; exact l3
          · rcases h3 with ⟨⟨-, q1⟩, -⟩ | ⟨q1, -⟩
            · have q8 : τ 118 8 = 0 := by rw [← l1, ← q1, ← fd 118 8 (by omega) (by omega) (by omega), ← p2.1]; exact q
              obtain ⟨f, cx, cd, hE⟩ := hD q8
              have cfr : ∀ k j, 120 ≤ k → ¬ (k = 125 ∧ j = c) → ¬ (k = 126 ∧ j = c) → τ2 k j = τ k j := fun k j n1 n2 n3 => (((f2 k j (by omega)).trans (fd k j n2 n3 (by omega))).trans (hw k j (by omega))).trans (f1 k j (by omega))
              refine open_code hE (fun i k i1 i2 => cfr i k i1 (by omega) (by omega)) (fun i hi => cfr _ _ (by omega) (by omega) (by omega)) (fun i hi => ?_) (fun k i i1 i2 => ?_) ?_ ?_
              · rw [f4 _ _ (by omega) (by omega) (by omega), cur3 _ _ (by omega)]
              · rw [f4 _ _ (by omega) (by omega) (by omega), cur3 _ _ (by omega)]
              · rw [f2 _ _ (by omega), hτd, up_cell (by decide), up_eq]
              · rw [hτ4, up_cell (by decide), up_cell (by decide), up_eq]
            · exfalso
              rw [p2.1, fd _ _ (by omega) (by omega) (by omega), q1] at q
              exact v4 q
        · refine Or.inl ⟨τ2, τ2m, by rw [a2, bnd_s], ?_, fl, FrCp_tr frd (FrCp_cur f2), FrS_cur (CurM_tr e1 e2)⟩
          obtain ⟨e, t', he, -, -, he2, -⟩ := fl
          rw [m_X12_tellCode_J28, b1, bnd_s, b2, bnd_s, if_neg (by omega)]
      by_cases k26 : K (t + 1) = 26
      · rw [c11', if_pos k26] at hcls0
        by_cases hy1 : y = -1
        · rw [if_pos hy1] at hcls0
          exact rest τ1 (fun _ _ _ => rfl) hcls0 (fun _ => Or.inl ⟨hy1, rfl⟩)
        · have hP1 : τ1 118 12 = (P (t + 1) : Int) := j1.1.2.2.1.2.2.1
          obtain ⟨τv, τvm, v1, -, -, v4, v5, -, -⟩ := jwrong (e := 3) (τ := τ1) (τm := τ1m) hT j1.1.1.1 j1.1.1.2 j1.1.2.1.2 j1.1.2.2.2.2 hP1 j1.2 (by decide)
          rw [if_neg hy1, v1, bnd_s] at hcls0
          exact rest τv v5 hcls0 (fun _ => Or.inr ⟨hy1, v1, v4⟩)
      · rw [c11', if_neg k26] at hcls0
        exact rest τ1 (fun _ _ _ => rfl) hcls0 (fun q => absurd q k26)
    · refine Or.inl ⟨τ1, τ1m, ?_, flend τ1 τ1m fl τm b1, fl, FrCp_cur f1, FrS_cur e1⟩
      rw [m_X4_codeOrOver_J37, a1, bnd_s]
      show (if (0 : Int) = 0 then _ else _) = _
      rw [if_pos rfl]
/-- the deeds of a code, to its end or to a fault -/
theorem deeds_rd (hT : TF K P D NL) : ∀ (r t : Nat) (n m c nb : Nat) (τ τm : St) (i : Nat), 501 - t ≤ r → i ≤ t → IX K P D NL S t n m c nb τ τm →
    ∃ k x τ' τm', k ≤ r ∧ Rch (fun a => m_X4_parse_L43 a.1 a.2.1 a.2.2) k ((1 : Int), (i : Int), τ) (x, ((i + k : Nat) : Int), τ') ∧ (∃ N, N ≤ r + 1 ∧ lpN (fun a => m_X12_tellCode_L145 a) N τm = some τm') ∧ FrCp τ τ' ∧ FrS S τm τm' ∧
      ((x = 0 ∧ Fl P τ' τm') ∨ (x = 1 ∧ ∃ t' n' m' c', (i + k ≤ t' ∧ t < t') ∧ EX K P D NL S t' n' m' (c' + 1) c' τ' τm')) := by
  intro r
  induction r with
  | zero =>
    intro t n m c nb τ τm i h1 h2 h3
    have := h3.1.1.1.2
    omega
  | succ r ih =>
    intro t n m c nb τ τm i h1 h2 h3
    have ht5 := h3.1.1.1.2
    obtain ⟨x, τ', τm', a1, b1, fC, fM, hO⟩ := deed_rd hT h3
    have s7 : τ 118 7 = 1 := h3.2.1.2
    have h12 : τm 170 12 = 0 := h3.1.1.2.2.2.2
    have h27 : ¬ τm 170 27 ≤ 0 := by rw [(ix_md h3).2]; omega
    have hcl : m_X4_parse_L43 1 (i : Int) τ = some (.inl (x, ((i + 1 : Nat) : Int), τ')) := by
      rw [m_X4_parse_L43, if_neg (by omega), if_neg (by decide), s7, if_neg (by decide), a1, bnd_s]
      show some (Sum.inl (x, wr ((i : Int) + 1), τ')) = _
      rw [nx1 (by omega)]
    have hml : m_X12_tellCode_L145 τm = some (.inl τm') := by
      rw [m_X12_tellCode_L145, h12, if_pos rfl, if_neg h27, b1, bnd_s]
    rcases hO with ⟨hx, fl⟩ | ⟨hx, t', ht', hcase⟩
    · have fl0 := fl
      obtain ⟨e, t', he, -, -, he2, -⟩ := fl
      refine ⟨1, x, τ', τm', by omega, ⟨_, hcl, rfl⟩, ⟨2, by omega, ?_⟩, fC, fM, Or.inl ⟨hx, fl0⟩⟩
      unfold lpN lpN
      simp only [hml]
      rw [m_X12_tellCode_L145, if_neg (by omega)]
    · rcases hcase with ⟨n', m', c', nb', hI⟩ | ⟨n', m', c', hE, h0⟩
      · obtain ⟨k, x2, τ2, τ2m, q1, q2, ⟨N, q3, q4⟩, q5, q6, q7⟩ := ih t' n' m' c' nb' τ' τm' (i + 1) (by omega) (by omega) hI
        refine ⟨k + 1, x2, τ2, τ2m, by omega, ⟨_, hcl, ?_⟩, ⟨N + 1, by omega, ?_⟩, FrCp_tr fC q5, FrS_tr fM q6, ?_⟩
        · rw [hx, show i + (k + 1) = i + 1 + k by omega]; exact q2
        · unfold lpN
          simp only [hml]
          exact q4
        · rcases q7 with q7 | ⟨q7, t'', n'', m'', c'', q8, q9⟩
          · exact Or.inl q7
          · exact Or.inr ⟨q7, t'', n'', m'', c'', ⟨by omega, by omega⟩, q9⟩
      · refine ⟨1, x, τ', τm', by omega, ⟨_, hcl, rfl⟩, ⟨2, by omega, ?_⟩, fC, fM, Or.inr ⟨hx, t', n', m', c', ⟨by omega, ht'⟩, hE⟩⟩
        unfold lpN lpN
        simp only [hml]
        rw [m_X12_tellCode_L145, hE.1.1.2.2.2.2, if_pos rfl, if_pos (by omega)]
/-- all the codes -/
theorem codes_ind (hT : TF K P D NL) {τ0 τm0 : St} : ∀ (r t n m c : Nat) (σ σm : St) (i : Nat), 502 - t ≤ r → i ≤ t → FrCp τ0 σ → FrS S τm0 σm → EX K P D NL S t n m c c σ σm →
    ∃ τ' τm', lpN (fun a => m_X4_parse_L43 a.1 a.2.1 a.2.2) (503 - i) ((1 : Int), (i : Int), σ) = some τ' ∧ lpN (fun a => m_X12_read_L97 a) (503 - t) σm = some τm' ∧ FrCp τ0 τ' ∧ FrS S τm0 τm' ∧ (Fl P τ' τm' ∨ ∃ t n m c, EX K P D NL S t n m c c τ' τm') := by
  intro r
  induction r with
  | zero =>
    intro t n m c σ σm i h1 h2 fC fM hE
    have := hE.1.1.1.2
    omega
  | succ r ih =>
    intro t n m c σ σm i h1 e4 fC fM hE
    have ht5 := hE.1.1.1.2
    have s7 : σ 118 7 = 0 := hE.2.1.2.1
    have c11 : σ 118 11 = K t := hE.1.1.2.2.1.2.1
    have h12 : σm 170 12 = 0 := hE.1.1.2.2.2.2
    have hi := mis hT hE.1.1 (a := 29) (b := 0) (by decide) rfl
    have hstop : ∀ (z : Int) (σ' : St), m_X4_parse_L43 0 z σ' = some (.inr σ') := fun z σ' => by
      rw [m_X4_parse_L43]
      by_cases hz : 500 < z
      · rw [if_pos hz]
      · rw [if_neg hz, if_pos rfl]
    have hcl : ∀ (x' : Int) (σ' : St), m_X4_codeOrOver σ = some (x', σ') → m_X4_parse_L43 1 (i : Int) σ = some (.inl (x', ((i + 1 : Nat) : Int), σ')) := fun x' σ' q => by
      rw [m_X4_parse_L43, if_neg (by omega), if_neg (by decide), s7, if_pos rfl, q, bnd_s]
      show some (Sum.inl (x', wr ((i : Int) + 1), σ')) = _
      rw [nx1 (by omega)]
    have hend : ∀ (z : Int) (σ' : St) (k : Nat), Rch (fun a => m_X4_parse_L43 a.1 a.2.1 a.2.2) k ((1 : Int), (i : Int), σ) ((0 : Int), z, σ') → k ≤ 502 - i → lpN (fun a => m_X4_parse_L43 a.1 a.2.1 a.2.2) (503 - i) ((1 : Int), (i : Int), σ) = some σ' := by
      intro z σ' k hr hk
      have h1 : lpN (fun a => m_X4_parse_L43 a.1 a.2.1 a.2.2) 1 ((0 : Int), z, σ') = some σ' := by
        unfold lpN
        simp only [hstop]
      exact lpN_mono _ _ (lpN_rch h1 k _ hr) _ (by omega)
    by_cases hk : K t = 29
    · refine ⟨σ, σm, hend _ σ 1 ⟨_, hcl 0 σ ?_, rfl⟩ (by omega), ?_, fC, fM, Or.inr ⟨t, n, m, c, hE⟩⟩
      · rw [m_X4_codeOrOver, c11, if_pos hk]
      · have h1 : lpN (fun a => m_X12_read_L97 a) 1 σm = some σm := by
          have : m_X12_read_L97 σm = some (.inr σm) := by rw [m_X12_read_L97, h12, if_pos rfl, hi, bnd_s, if_pos hk, if_neg (by decide)]
          unfold lpN
          simp only [this]
        exact lpN_mono _ _ h1 _ (by omega)
    · have hml : ∀ σm', m_X12_tellCode σm = some σm' → m_X12_read_L97 σm = some (.inl σm') := fun σm' q => by
        rw [m_X12_read_L97, h12, if_pos rfl, hi, bnd_s, if_neg hk, if_pos rfl, q, bnd_s]
      have hm2 : ∀ σm' τx N, m_X12_tellCode σm = some σm' → lpN (fun a => m_X12_read_L97 a) N σm' = some τx → N + 1 ≤ 503 - t → lpN (fun a => m_X12_read_L97 a) (503 - t) σm = some τx := by
        intro σm' τx N q1 q2 q3
        have h1 : lpN (fun a => m_X12_read_L97 a) (N + 1) σm = some τx := by
          have hq := hml σm' q1
          unfold lpN
          simp only [hq]
          exact q2
        exact lpN_mono _ _ h1 _ q3
      have hfl : ∀ (τ' τx : St), Fl P τ' τx → lpN (fun a => m_X12_read_L97 a) 1 τx = some τx := by
        intro τ' τx fl
        obtain ⟨e, t', he, -, -, he2, -⟩ := fl
        have : m_X12_read_L97 τx = some (.inr τx) := by rw [m_X12_read_L97, if_neg (by omega)]
        unfold lpN
        simp only [this]
      rcases code_begin hT hE hk with ⟨σ', σm', a1, b1, fl, f1, f2⟩ | ⟨σ', σm1, a1, b1, hI, f1, f2⟩
      · exact ⟨σ', σm', hend _ σ' 1 ⟨_, hcl 0 σ' a1, rfl⟩ (by omega), hm2 σm' σm' 1 b1 (hfl σ' σm' fl) (by omega), FrCp_tr fC f1, FrS_tr fM f2, Or.inl fl⟩
      · obtain ⟨k, x2, τ2, τ2m, q1, q2, ⟨N, q3, q4⟩, q5, q6, q7⟩ := deeds_rd hT (501 - (t + 2)) (t + 2) n m c 0 σ' σm1 (i + 1) (Nat.le_refl _) (by omega) hI
        have ht6 := hI.1.1.1.2
        have hlp : lp (fun a => m_X12_tellCode_L145 a) σm1 = some τ2m := lpN_mono _ _ q4 FU (by unfold FU; omega)
        have hr : Rch (fun a => m_X4_parse_L43 a.1 a.2.1 a.2.2) (k + 1) ((1 : Int), (i : Int), σ) (x2, ((i + 1 + k : Nat) : Int), τ2) := ⟨_, hcl 1 σ' a1, q2⟩
        rcases q7 with ⟨hx, fl⟩ | ⟨hx, t', n', m', c', ⟨hle, hlt⟩, hE'⟩
        · subst hx
          refine ⟨τ2, τ2m, hend _ τ2 (k + 1) hr (by omega), hm2 τ2m τ2m 1 ?_ (hfl τ2 τ2m fl) (by omega), FrCp_tr (FrCp_tr fC f1) q5, FrS_tr (FrS_tr fM f2) q6, Or.inl fl⟩
          obtain ⟨e, t', he, -, -, he2, -⟩ := fl
          rw [b1, hlp, bnd_s, codeX, if_neg (by omega)]
        · subst hx
          obtain ⟨w0, w1, ⟨w2, w3, w4, ⟨w5, w6, w7⟩, w8⟩, w9, w10⟩ := hE'
          have h12' : τ2m 170 12 = 0 := w0.1.2.2.2.2
          have ht' := w0.1.1.2
          have hX : m_X12_tellCode σm = some (up τ2m 178 S ((c' + 1 : Nat) : Int)) := by
            rw [b1, hlp, bnd_s, codeX, h12', if_pos rfl, w8, rd_ok (by omega) (by omega), bnd_s, Int.toNat_natCast, w6, nx1 (by omega), wt_ok (by omega) (by omega), bnd_s, Int.toNat_natCast]
          have hE2 : EX K P D NL S t' n' m' (c' + 1) (c' + 1) τ2 (up τ2m 178 S ((c' + 1 : Nat) : Int)) := by
            refine ⟨jt_cg w0 (fun _ _ _ => rfl) (fun k j q => up_cell (by omega)), w1, ⟨w2, w3, ⟨?_, w4.2⟩, ⟨w5, up_eq .., w7⟩, ?_⟩, fun i hi => ?_, fun q => ?_⟩
            · rw [up_cell (by decide)]; exact w4.1
            · rw [up_cell (by decide)]; exact w8
            · obtain ⟨l, l1, l2, l3⟩ := w9 i hi
              exact ⟨l, l1, l2, by rw [up_cell (by decide)]; exact l3⟩
            · obtain ⟨f, cx, cd, d1, d2, d3, d4⟩ := w10 q
              refine ⟨f, cx, cd, d1, fun p hp => ?_, d3, fun i hi => ?_⟩
              · obtain ⟨x1, x2, x3, x4⟩ := d2 p hp
                exact ⟨x1, x2, x3, sok_cg x4 hp (Nat.le_refl _) (fun _ _ => ⟨rfl, rfl, rfl⟩) (fun _ _ _ => rfl) (fun i i1 i2 => up_cell (by omega)) (fun _ _ => ⟨up_cell (by decide), up_cell (by decide)⟩)⟩
              · obtain ⟨b, b1, b2, b3, b4, b5⟩ := d4 i hi
                exact ⟨b, b1, b2, b3, b4, by rw [up_cell (by decide)]; exact b5⟩
          obtain ⟨τ3, τ3m, z1, z2, z3, z4, z5⟩ := ih t' n' m' (c' + 1) τ2 (up τ2m 178 S ((c' + 1 : Nat) : Int)) (i + 1 + k) (by omega) (by omega) (FrCp_tr (FrCp_tr fC f1) q5) (FrS_tr (FrS_tr (FrS_tr fM f2) q6) (fun k j n1 n2 n3 n4 n5 => by
            by_cases hk : k = 178
            · subst hk; rw [up_slot (by omega)]
            · rw [up_cell hk])) hE2
          refine ⟨τ3, τ3m, ?_, hm2 _ τ3m (503 - t') hX z2 (by omega), z3, z4, z5⟩
          exact lpN_mono _ _ (lpN_rch z1 (k + 1) _ hr) _ (by omega)
theorem codes_rd (hT : TF K P D NL) (h : EX K P D NL S 0 0 0 0 0 τ τm) : Hp2 (lp (fun a => m_X4_parse_L43 a.1 a.2.1 a.2.2) (1, 0, τ)) (lp (fun a => m_X12_read_L97 a) τm) (fun τ' τm' => FrCp τ τ' ∧ FrS S τm τm' ∧ (Fl P τ' τm' ∨ ∃ t n m c, EX K P D NL S t n m c c τ' τm')) := by
  obtain ⟨τ', τm', h1, h2, h3⟩ := codes_ind hT 502 0 0 0 0 τ τm 0 (by omega) (Nat.le_refl _) (fun _ _ _ => rfl) (fun _ _ _ _ _ _ _ => rfl) h
  exact ⟨τ', τm', lpN_mono _ _ h1 FU (by unfold FU; omega), lpN_mono _ _ h2 FU (by unfold FU; omega), h3⟩
end
