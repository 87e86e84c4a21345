/-! DEEDS: abort, do -/
section
variable {K : Nat → Int} {P : Nat → Nat} {D : Nat → Int} {NL : Nat → List Int} {S t n m c nb : Nat} {τ τm τ' τm' : St}
theorem abort_sp (hT : TF K P D NL) (h : IX K P D NL S t n m c nb τ τm) (hk : K t = 0) : ∃ x τ' τm', m_X4_deedOrEnd τ = some (x, τ') ∧ m_X12_tellDeed τm = some τm' ∧ DOut K P D NL S t τ τm x τ' τm' := by
  have h0 := h
  obtain ⟨hj, ⟨g1, g2⟩, ⟨u1, ⟨u2, u3⟩, ⟨u4, u5⟩, ⟨u6, u7, u8⟩, ⟨u9, u10, u11⟩, u12, u13⟩, hB, hN, hD⟩ := h
  have c11 : τ 118 11 = K t := hj.1.2.2.1.2.1
  have ht5 := hj.1.1.2
  have hmk : MK (K t) = 32 := by rw [hk]; rfl
  obtain ⟨τ1, a1, s1⟩ := cadd_sp (k := 0) (v := 0) (w := 0) (τ := τ) (n := n) u2 (by omega)
  have j1 : JT K P D NL t τ1 τm := jt_cg hj (fun i j q => s1.1 i j (by omega) (by omega)) (fun _ _ _ => rfl)
  have hcls : m_X4_deedOrEnd τ = (m_X4_accept 0 τ1).bind fun (x5, σ6) => (if x5 = 0 then some ((0 : Int), σ6) else (m_X4_accept 28 σ6).bind fun (x8, σ9) => (if x8 = 0 then some ((0 : Int), σ9) else some ((1 : Int), σ9))) := by
    rw [m_X4_deedOrEnd, c11, if_pos hk, a1, bnd_s]
  rw [hcls, md_plain hT hj (ix_md h0) (by omega) (by rw [hmk]; decide), hmk]
  have htl : ∀ σ, tailX 32 σ = (m_X12_tellPlain_J151 32 0 σ).bind fun σ48 => some σ48 := by
    intro σ
    simp only [tailX, m_X12_tellPlain, Int.reduceEq, Int.reduceLE, if_true, if_false]
  rcases jnextT j1 hk (by decide) with ⟨g0, τ2, τ2m, a2, b2, j2, f2, e2, l2, z2⟩ | ⟨τ2, τ2m, a2, b2, fl, f2, e2⟩
  · rw [a2, b2, bnd_s, bnd_s, htl, m_X12_tellPlain_J151]
    rcases jaccT hT j2 (a := 28) (b := 4) (by decide) rfl with ⟨-, τ4, τ4m, a4, b4, j4, f4, e4, l4, z4⟩ | ⟨τ4, τ4m, a4, b4, fl, f4, e4⟩
    · have cur : CurM τm τ4m := CurM_tr e2 e4
      obtain ⟨τ5m, b5, s5⟩ := emit_sp (o := 10) (a := 0) (b := 0) (d := 0) (τ := τ4m) (i := 1000 * S + m) (by rw [cur _ _ (by omega)]; exact u4) (by omega)
      have sC : StC n 0 0 0 1 (-1) τ τ4 := stc_mk CurC_rf s1 (CurC_tr f2 f4)
      have sM := stm_mk cur s5
      refine ⟨1, τ4, τ5m, ?_, ?_, FrCp_st sC, FrS_tr (FrS_cur cur) (FrS_em s5 (by omega)), Or.inr ⟨rfl, t + 2, by omega, Or.inl ⟨n + 1, m + 1, c, nb, ix_push h0 (jt_cg j4 (fun _ _ _ => rfl) (fun i j q => s5.1 i j (by omega) (by omega))) ?_ sC sM (by omega) ?_⟩⟩⟩
      · show (if (1 : Int) = 0 then _ else _) = _
        rw [if_neg (by decide), a4, bnd_s]
        show (if (1 : Int) = 0 then _ else _) = _
        rw [if_neg (by decide)]
      · rw [b4, bnd_s, if_pos j4.1.2.2.2.2, show wr (32 - 22) = 10 by decide, b5, bnd_s, bnd_s]
      · rw [z4, z2, s1.1 _ _ (by omega) (by omega)]; exact g1
      · intro q
        refine ⟨by rw [← s1.1 118 8 (by omega) (by omega), ← l2, ← l4]; exact q, fun f' cx' cd' y1 y2 y3 y4 => ?_⟩
        obtain ⟨-, ⟨v1, v2, -⟩, -⟩ := sC
        obtain ⟨-, ⟨w1, w2, -⟩, -⟩ := sM
        exact Or.inl ⟨0, 10, 0, by decide, v1, by rw [y1, w1]; rfl, by rw [y1, w2, v2], by rw [v2]; decide, by rw [v2]; decide, y2, y3⟩
    · refine ⟨0, τ4, τ4m, ?_, ?_, FrCp_tr (FrCp_add s1) (FrCp_cur (CurC_tr f2 f4)), FrS_cur (CurM_tr e2 e4), Or.inl ⟨rfl, fl⟩⟩
      · show (if (1 : Int) = 0 then _ else _) = _
        rw [if_neg (by decide), a4, bnd_s]
        show (if (0 : Int) = 0 then _ else _) = _
        rw [if_pos rfl]
      · obtain ⟨e, t', he, -, -, he2, -⟩ := fl
        rw [b4, bnd_s, if_neg (by omega), bnd_s]
  · obtain ⟨τ3m, b3, fl2, e3⟩ := ftail fl (x2 := 32)
    refine ⟨0, τ2, τ3m, ?_, ?_, FrCp_tr (FrCp_add s1) (FrCp_cur f2), FrS_cur (CurM_tr e2 e3), Or.inl ⟨rfl, fl2⟩⟩
    · rw [a2, bnd_s]
      show (if (0 : Int) = 0 then _ else _) = _
      rw [if_pos rfl]
    · rw [b2, bnd_s, b3]
/-- the least of c numbers that Q holds of; -1 without -/
def Lst (Q : Nat → Prop) (c : Nat) (y : Int) : Prop := (y = -1 ∧ ∀ i, i < c → ¬ Q i) ∨ ∃ i : Nat, y = (i : Int) ∧ i < c ∧ Q i ∧ ∀ j, j < i → ¬ Q j
theorem lst_uniq {Q Q' : Nat → Prop} {c : Nat} {y y' : Int} (h : Lst Q c y) (h' : Lst Q' c y') (hq : ∀ i, i < c → (Q i ↔ Q' i)) : y = y' := by
  rcases h with ⟨h1, h2⟩ | ⟨i, h1, h2, h3, h4⟩
  · rcases h' with ⟨k1, k2⟩ | ⟨i', k1, k2, k3, k4⟩
    · rw [h1, k1]
    · exact absurd ((hq i' k2).mpr k3) (h2 i' k2)
  · rcases h' with ⟨k1, k2⟩ | ⟨i', k1, k2, k3, k4⟩
    · exact absurd ((hq i h2).mp h3) (k2 i h2)
    · have e : i = i' := by
        by_cases hlt : i < i'
        · exact absurd ((hq i h2).mp h3) (k4 i hlt)
        · by_cases hgt : i' < i
          · exact absurd ((hq i' k2).mpr k3) (h4 i' hgt)
          · omega
      rw [h1, k1, e]
theorem named_c {c : Nat} {x : Int} (h : τ 119 8 = (c : Int)) (hc : c ≤ 8) : ∃ y, m_X5_codeNamed 119 x τ = some y ∧ Lst (fun i => τ 125 i = x) c y := by
  have key : Hp (m_X5_codeNamed 119 x τ) (Lst (fun i => τ 125 i = x) c) := by
    rw [m_X5_codeNamed, Hp_bind]
    refine Hp_up (fun j (z : Int) => z = (j : Int) ∧ ∀ i, i < j → ¬ τ 125 i = x) 0 c (by omega) (Nat.zero_le _) ⟨rfl, fun i hi => by omega⟩ ?_ ?_
    · rintro j z - hj ⟨e1, e2⟩
      subst e1
      simp only [m_X5_codeNamed_L2]
      rw [h, if_neg (by omega), if_neg (by omega), rd_ok (by omega) (by omega), bnd_s, Int.toNat_natCast]
      by_cases hz : lcI (τ (119 + 6) j) x = 0
      · rw [if_pos hz, Hp_some, Lq_inr, Hp_some]
        exact Or.inr ⟨j, rfl, hj, lc0.mp hz, e2⟩
      · rw [if_neg hz, Hp_some, Lq_inl, nx1 (by omega)]
        refine ⟨rfl, fun i hi => ?_⟩
        by_cases hij : i = j
        · subst hij
          intro q
          exact hz (lc0.mpr q)
        · exact e2 i (by omega)
    · rintro z ⟨e1, e2⟩
      subst e1
      simp only [m_X5_codeNamed_L2]
      rw [h, if_pos (Int.le_refl _), Hp_some, Lq_inr, Hp_some]
      exact Or.inl ⟨rfl, e2⟩
  exact key
theorem named_m {S c i0 : Nat} {x : Int} {σ : St} (hS : S < 2) (h18 : τm 170 18 = (S : Int)) (hc : c ≤ 8) (ht : σ 170 11 = (i0 : Int)) (hi0 : i0 ≤ 500) (hx : τm 176 i0 = x) : ∃ y, lp (fun a => m_X12_tellPlain_L44 τm σ a.1 a.2) (-1, (c : Int) - 1) = some y ∧ Lst (fun i => τm 179 (8 * S + i) = x) c y := by
  have key : Hp (lp (fun a => m_X12_tellPlain_L44 τm σ a.1 a.2) (-1, (c : Int) - 1)) (Lst (fun i => τm 179 (8 * S + i) = x) c) := by
    refine Hp_dn (fun j (z : Int × Int) => j ≤ c ∧ z.2 = (j : Int) - 1 ∧ ((z.1 = -1 ∧ ∀ i, j ≤ i → i < c → ¬ τm 179 (8 * S + i) = x) ∨ ∃ i : Nat, z.1 = (i : Int) ∧ j ≤ i ∧ i < c ∧ τm 179 (8 * S + i) = x ∧ ∀ k, j ≤ k → k < i → ¬ τm 179 (8 * S + k) = x)) c (by omega) ⟨Nat.le_refl _, rfl, Or.inl ⟨rfl, fun i h1 h2 => by omega⟩⟩ ?_ ?_
    · rintro j ⟨y, z⟩ hj ⟨e0, e1, e2⟩
      simp only at e1 e2
      have hz : z = (j : Int) := by omega
      subst hz
      simp only [m_X12_tellPlain_L44]
      have hix : wr (wr (8 * τm 170 18) + (j : Int)) = ((8 * S + j : Nat) : Int) := by rw [h18]; exact ix8 (by omega) (by omega)
      have hdn : wr ((j : Int) + -1) = (j : Int) - 1 := by rw [wr_id' (by omega) (by omega)]; omega
      rw [if_neg (by omega), hix, rd_ok (by omega) (by omega), bnd_s, Int.toNat_natCast, ht, rd_ok (by omega) (by omega), bnd_s, Int.toNat_natCast, hx, hdn]
      by_cases hq : τm 179 (8 * S + j) = x
      · rw [if_pos (lc0.mpr hq), Hp_some, Lq_inl]
        exact ⟨by omega, rfl, Or.inr ⟨j, rfl, Nat.le_refl _, by omega, hq, fun k h1 h2 => by omega⟩⟩
      · rw [if_neg (fun q => hq (lc0.mp q)), Hp_some, Lq_inl]
        refine ⟨by omega, rfl, ?_⟩
        rcases e2 with ⟨e2, e3⟩ | ⟨i, e2, e3, e4, e5, e6⟩
        · refine Or.inl ⟨e2, fun i h1 h2 => ?_⟩
          by_cases hij : i = j
          · rw [hij]; exact hq
          · exact e3 i (by omega) h2
        · refine Or.inr ⟨i, e2, by omega, e4, e5, fun k h1 h2 => ?_⟩
          by_cases hkj : k = j
          · rw [hkj]; exact hq
          · exact e6 k (by omega) h2
    · rintro ⟨y, z⟩ ⟨e0, e1, e2⟩
      simp only at e1 e2
      simp only [m_X12_tellPlain_L44]
      rw [if_pos (by omega), Hp_some, Lq_inr]
      rcases e2 with ⟨e2, e3⟩ | ⟨i, e2, e3, e4, e5, e6⟩
      · exact Or.inl ⟨e2, fun i hi => e3 i (Nat.zero_le _) hi⟩
      · exact Or.inr ⟨i, e2, e4, e5, fun k hk => e6 k (Nat.zero_le _) hk⟩
  exact key
/-- the names on both sides say the same -/
theorem nms_iff {c1 : Nat} {l0 : List Int} (hN : Nms S c1 τ τm) (h0 : okL l0) {i : Nat} (hi : i < c1) : τ 125 i = nB 32 l0 ↔ τm 179 (8 * S + i) = nB 27 l0 := by
  obtain ⟨l, l1, l2, l3⟩ := hN i hi
  rw [l2, l3]
  exact ⟨fun q => by rw [nB32_inj _ _ l1 h0 q], fun q => by rw [nB27_inj _ _ l1 h0 q]⟩
theorem do_sp (hT : TF K P D NL) (h : IX K P D NL S t n m c nb τ τm) (hk : K t = 3) : ∃ x τ' τm', m_X4_doDeed τ = some (x, τ') ∧ m_X12_tellDeed τm = some τm' ∧ DOut K P D NL S t τ τm x τ' τm' := by
  have h0 := h
  obtain ⟨hj, ⟨g1, g2⟩, ⟨u1, ⟨u2, u3⟩, ⟨u4, u5⟩, ⟨u6, u7, u8⟩, ⟨u9, u10, u11⟩, u12, u13⟩, hB, hN, hD⟩ := h
  have c11 : τ 118 11 = K t := hj.1.2.2.1.2.1
  have ht5 := hj.1.1.2
  have hmk : MK (K t) = 33 := by rw [hk]; rfl
  rw [md_plain hT hj (ix_md h0) (by omega) (by rw [hmk]; decide), hmk]
  rcases jnextT hj hk (by decide) with ⟨g0, τ1, τ1m, a1, b1, j1, f1, e1, l1, z1⟩ | ⟨τ1, τ1m, a1, b1, fl, f1, e1⟩
  · obtain ⟨y, hy, hyL⟩ := named_c (x := τ1 118 14) (c := c) (τ := τ1) (by rw [f1 _ _ (by omega)]; exact u6) (by omega)
    have t11 : τ1m 170 11 = ((t + 1 : Nat) : Int) := j1.1.2.2.2.1
    have hmdl : (m_X12_next τm).bind (tailX 33) = (m_X12_tellPlain 33 τ1m).bind fun σ48 => some σ48 := by
      rw [b1, bnd_s]
      simp only [tailX, Int.reduceEq, if_false]
    rw [hmdl]
    -- from τw on, where the class puts down the step and takes two tokens
    have rest : ∀ τw : St, (∀ k j, ¬ (k = 118 ∧ (j = 8 ∨ j = 9)) → τw k j = τ1 k j) →
        m_X4_doDeed τ = m_X4_doDeed_J41 y τw → (K (t + 1) = 26 → (y ≠ -1 ∧ τw = τ1) ∨ (y = -1 ∧ m_X4_failLater 4 τ1 = some τw ∧ τw 118 8 ≠ 0)) → ∃ x τ' τm', m_X4_doDeed τ = some (x, τ') ∧ ((m_X12_tellPlain 33 τ1m).bind fun σ48 => some σ48) = some τm' ∧ DOut K P D NL S t τ τm x τ' τm' := by
      intro τw hw hcls hcase
      obtain ⟨τ2, a2, s2⟩ := cadd_sp (k := 3) (v := y) (w := 0) (τ := τw) (n := n) (by rw [hw _ _ (by omega), f1 _ _ (by omega)]; exact u2) (by omega)
      have fw : CurC τ τw := CurC_tr f1 (fun k j q => hw k j (by omega))
      have j2 : JC K P D NL (t + 1) τ2 τ1m := jc_cg j1.1 (fun i j q => (s2.1 i j (by omega) (by omega)).trans (hw i j (by omega))) (fun _ _ _ => rfl)
      have hcls2 : m_X4_doDeed τ = (m_X4_accept 26 τ2).bind fun (x13, σ14) => (if x13 = 0 then some ((0 : Int), σ14) else (m_X4_accept 28 σ14).bind fun (x16, σ17) => (if x16 = 0 then some ((0 : Int), σ17) else some ((1 : Int), σ17))) := by
        rw [hcls, m_X4_doDeed_J41, a2, bnd_s]
      rw [hcls2, m_X12_tellPlain, if_pos rfl]
      rcases jacc hT j2 (a := 26) (b := 1) (by decide) rfl with ⟨⟨k26, -⟩, τ3, τ3m, a3, b3, j3, f3, e3, p3, z3⟩ | ⟨τ3, τ3m, a3, b3, fl, f3, e3⟩
      · rcases jacc hT j3 (a := 28) (b := 4) (by decide) rfl with ⟨-, τ4, τ4m, a4, b4, j4, f4, e4, p4, z4⟩ | ⟨τ4, τ4m, a4, b4, fl, f4, e4⟩
        · have cur : CurM τm τ4m := CurM_tr (CurM_tr e1 e3) e4
          have hlc : ∀ τx : St, True := fun _ => trivial
          have hok := hT.2.2.1 (t + 1) k26
          -- the model's search
          have e176 : τ4m 176 (t + 1) = nB 27 (NL (t + 1)) := (j4.2.1.2 (t + 1) (by have := j4.1.2; omega) j2.1.1).2.2.2 k26
          have cn : ((c : Int) - 1) = wr ((c : Int) - 1) := (wr_id' (by omega) (by omega)).symm
          obtain ⟨y', hy', hyL'⟩ := named_m (S := S) (c := c) (σ := τ1m) (τm := τ4m) u1 (by rw [cur _ _ (by omega)]; exact u13) (by omega) t11 (by have := j4.1.2; omega) e176
          have e14 : τ1 118 14 = nB 32 (NL (t + 1)) := j1.1.2.2.1.2.2.2.2 k26
          have hyy : y' = y := by
            refine lst_uniq hyL' hyL (fun i hi => ?_)
            rw [e14, cur 179 _ (by omega), f1 125 _ (by omega)]
            exact (nms_iff hN hok (by omega)).symm
          subst hyy
          have hm1 : ((m_X12_must 1 τ1m).bind fun σ22 => (m_X12_must 4 σ22).bind fun σ23 => (if σ23 170 12 ≤ 0 then (rd σ23 178 2 (σ23 170 18)).bind fun x27 => (vl (wr (x27 - 1))).bind fun x28 => ((lp (fun a => m_X12_tellPlain_L44 σ23 τ1m a.1 a.2) ((-1), x28)).bind fun x37 => (if x37 = (-1) then (m_X12_wrong 4 (τ1m 170 11) σ23).bind fun σ39 => m_X12_tellPlain_J94 x37 σ39 else m_X12_tellPlain_J94 x37 σ23)) else some σ23)) = (if y' = (-1) then (m_X12_wrong 4 ((t + 1 : Nat) : Int) τ4m).bind fun σ39 => m_X12_tellPlain_J94 y' σ39 else m_X12_tellPlain_J94 y' τ4m) := by
            rw [b3, bnd_s, b4, bnd_s, j4.2.2.2.2, if_pos (Int.le_refl _), cur 170 18 (by omega), u13, rd_ok (by omega) (by omega), bnd_s, Int.toNat_natCast, cur 178 S (by omega), u7, vl, bnd_s, ← cn, hy', bnd_s, t11]
          rw [hm1]
          have hc2 : ((m_X4_accept 26 τ2).bind fun (x13, σ14) => (if x13 = 0 then some ((0 : Int), σ14) else (m_X4_accept 28 σ14).bind fun (x16, σ17) => (if x16 = 0 then some ((0 : Int), σ17) else some ((1 : Int), σ17)))) = some (1, τ4) := by
            rw [a3, bnd_s]
            show (if (1 : Int) = 0 then _ else _) = _
            rw [if_neg (by decide), a4, bnd_s]
            show (if (1 : Int) = 0 then _ else _) = _
            rw [if_neg (by decide)]
          have sC : StC n 3 y' 0 1 (-1) τ τ4 := stc_mk fw s2 (CurC_tr f3 f4)
          have h1' : τ4 118 1 = 0 := by rw [z4, z3, s2.1 _ _ (by omega) (by omega), hw _ _ (by omega), z1]; exact g1
          rcases hcase k26 with ⟨hy1, hw1⟩ | ⟨hy1, hw1, hw2⟩
          · subst hw1
            rw [if_neg hy1, m_X12_tellPlain_J94]
            obtain ⟨τ5m, b5, s5⟩ := emit_sp (o := 11) (a := y') (b := 0) (d := 0) (τ := τ4m) (i := 1000 * S + m) (by rw [cur _ _ (by omega)]; exact u4) (by omega)
            have sM := stm_mk cur s5
            have lt4 : LT P (t + 3) τ4 τ4m := lt_kp (lt_kp (lt_kp j1.2 ⟨s2.1 _ _ (by omega) (by omega), s2.1 _ _ (by omega) (by omega), rfl, rfl⟩ (Nat.le_refl _)) p3 (Nat.le_refl _)) p4 (by omega)
            refine ⟨1, τ4, τ5m, hc2, ?_, FrCp_st sC, FrS_tr (FrS_cur cur) (FrS_em s5 (by omega)), Or.inr ⟨rfl, t + 3, by omega, Or.inl ⟨n + 1, m + 1, c, nb, ix_push h0 (jt_cg ⟨j4, lt4⟩ (fun _ _ _ => rfl) (fun i j q => s5.1 i j (by omega) (by omega))) h1' sC sM (by omega) ?_⟩⟩⟩
            · rw [b5, bnd_s, bnd_s]
            · intro q
              refine ⟨by rw [← l1, ← s2.1 118 8 (by omega) (by omega), ← p3.1, ← p4.1]; exact q, fun f' cx' cd' y1 y2 y3 y4 => ?_⟩
              obtain ⟨-, ⟨v1, v2, -⟩, -⟩ := sC
              obtain ⟨-, ⟨w1, w2, -⟩, -⟩ := sM
              rcases hyL with ⟨q1, -⟩ | ⟨i, q1, q2, -⟩
              · exact absurd q1 hy1
              · exact Or.inr (Or.inl ⟨v1, by rw [y1, w1], ⟨i, by rw [v2, q1], by rw [y4]; exact q2⟩, by rw [y1, w2, v2], y2, y3⟩)
          · rw [if_pos hy1]
            have hP1 : τ1 118 12 = (P (t + 1) : Int) := j1.1.2.2.1.2.2.1
            have lt1 : LT P (t + 1) τ1 τ4m := lt_kp j1.2 ⟨rfl, rfl, by rw [p4.2.2.1, p3.2.2.1], by rw [p4.2.2.2, p3.2.2.2]⟩ (Nat.le_refl _)
            obtain ⟨τv, τvm, v1, v2, v3, v4, v5, v6, -⟩ := jwrong (e := 4) (τ := τ1) (τm := τ4m) hT j1.1.1.1 j1.1.1.2 j4.2.1.2 j4.2.2.2.2 hP1 lt1 (by decide)
            have hvw : τv = τw := Option.some.inj (v1.symm.trans hw1)
            subst hvw
            have curv : CurM τm τvm := CurM_tr cur (fun k j q => v6 k j (by omega))
            obtain ⟨τ5m, b5, s5⟩ := emit_sp (o := 11) (a := y') (b := 0) (d := 0) (τ := τvm) (i := 1000 * S + m) (by rw [curv _ _ (by omega)]; exact u4) (by omega)
            have sM := stm_mk curv s5
            have lt4 : LT P (t + 3) τ4 τvm := lt_kp (lt_kp (lt_kp v3 ⟨s2.1 _ _ (by omega) (by omega), s2.1 _ _ (by omega) (by omega), rfl, rfl⟩ (Nat.le_refl _)) ⟨p3.1, p3.2.1, rfl, rfl⟩ (Nat.le_refl _)) ⟨p4.1, p4.2.1, rfl, rfl⟩ (by omega)
            have j4' : JC K P D NL (t + 3) τ4 τvm := jc_cg j4 (fun _ _ _ => rfl) (fun k j q => v6 k j (by omega))
            rw [v2, bnd_s, m_X12_tellPlain_J94]
            refine ⟨1, τ4, τ5m, hc2, ?_, FrCp_st sC, FrS_tr (FrS_cur curv) (FrS_em s5 (by omega)), Or.inr ⟨rfl, t + 3, by omega, Or.inl ⟨n + 1, m + 1, c, nb, ix_push h0 (jt_cg ⟨j4', lt4⟩ (fun _ _ _ => rfl) (fun i j q => s5.1 i j (by omega) (by omega))) h1' sC sM (by omega) ?_⟩⟩⟩
            · rw [b5, bnd_s, bnd_s]
            · intro q
              exfalso
              rw [p4.1, p3.1, s2.1 _ _ (by omega) (by omega)] at q
              exact v4 q
        · refine ⟨0, τ4, τ4m, ?_, ?_, FrCp_tr (FrCp_tr (FrCp_cur fw) (FrCp_add s2)) (FrCp_cur (CurC_tr f3 f4)), FrS_cur (CurM_tr (CurM_tr e1 e3) e4), Or.inl ⟨rfl, fl⟩⟩
          · rw [a3, bnd_s]
            show (if (1 : Int) = 0 then _ else _) = _
            rw [if_neg (by decide), a4, bnd_s]
            show (if (0 : Int) = 0 then _ else _) = _
            rw [if_pos rfl]
          · obtain ⟨e, t', he, -, -, he2, -⟩ := fl
            rw [b3, bnd_s, b4, bnd_s, if_neg (by omega), bnd_s]
      · refine ⟨0, τ3, τ3m, ?_, ?_, FrCp_tr (FrCp_tr (FrCp_cur fw) (FrCp_add s2)) (FrCp_cur f3), FrS_cur (CurM_tr e1 e3), Or.inl ⟨rfl, fl⟩⟩
        · rw [a3, bnd_s]
          show (if (0 : Int) = 0 then _ else _) = _
          rw [if_pos rfl]
        · have fl0 := fl
          obtain ⟨e, t', he, -, -, he2, -⟩ := fl
          rw [b3, bnd_s, fmust fl0, bnd_s, if_neg (by omega), bnd_s]
    have hcls0 : m_X4_doDeed τ = (if τ1 118 11 = 26 then (if y = (-1) then (m_X4_failLater 4 τ1).bind fun σ9 => m_X4_doDeed_J41 y σ9 else m_X4_doDeed_J41 y τ1) else m_X4_doDeed_J41 y τ1) := by
      rw [m_X4_doDeed, a1, bnd_s]
      show (if (1 : Int) = 0 then _ else _) = _
      rw [if_neg (by decide), hy, bnd_s]
    have c11' : τ1 118 11 = K (t + 1) := j1.1.2.2.1.2.1
    by_cases k26 : K (t + 1) = 26
    · rw [c11', if_pos k26] at hcls0
      by_cases hy1 : y = -1
      · have hP1 : τ1 118 12 = (P (t + 1) : Int) := j1.1.2.2.1.2.2.1
        obtain ⟨τv, τvm, v1, -, -, v4, v5, -, -⟩ := jwrong (e := 4) (τ := τ1) (τm := τ1m) hT j1.1.1.1 j1.1.1.2 j1.1.2.1.2 j1.1.2.2.2.2 hP1 j1.2 (by decide)
        rw [if_pos hy1, v1, bnd_s] at hcls0
        exact rest τv v5 hcls0 (fun _ => Or.inr ⟨hy1, v1, v4⟩)
      · rw [if_neg hy1] at hcls0
        exact rest τ1 (fun _ _ _ => rfl) hcls0 (fun _ => Or.inl ⟨hy1, rfl⟩)
    · rw [c11', if_neg k26] at hcls0
      exact rest τ1 (fun _ _ _ => rfl) hcls0 (fun q => absurd q k26)
  · obtain ⟨τ3m, b3, fl2, e3⟩ := ftail fl (x2 := 33)
    refine ⟨0, τ1, τ3m, ?_, ?_, FrCp_cur f1, FrS_cur (CurM_tr e1 e3), Or.inl ⟨rfl, fl2⟩⟩
    · rw [m_X4_doDeed, a1, bnd_s]
      show (if (0 : Int) = 0 then _ else _) = _
      rw [if_pos rfl]
    · rw [b1, bnd_s, b3]
end
