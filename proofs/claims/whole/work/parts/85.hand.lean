/-! marks and papers -/
theorem fr_c {ρ τ τm : St} (h : FrW ρ τ τm) {k : Nat} (hk : k < 39) : τ k = ρ k := funext fun j => by
  have := h.1 k j (by unfold RunC; omega)
  rw [this, cc, if_pos (by omega)]
theorem fr_m {ρ τ τm : St} (h : FrW ρ τ τm) {k : Nat} (hk : 171 ≤ k ∧ k ≤ 200) : τm k = ρ k := funext fun j => by
  have := h.2 k j (by unfold RunM; omega)
  rw [this, mc, if_pos (by omega)]
theorem fr_s {ρ τ τm : St} (h : FrW ρ τ τm) {j : Nat} (hj : j ≠ 58 ∧ j ≠ 60 ∧ j ≠ 71 ∧ j ≠ 72) : τm 170 j = ρ 170 j := by
  have := h.2 170 j (by unfold RunM; omega)
  rw [this, mc, if_pos (by omega)]
theorem or_bit {x : Int} {n i : Nat} (hI : InI x) (hx : 0 ≤ x ∧ x < 2 ^ n) (hn : n < 31) (hi : i < n) : (0 ≤ orI x (shlI 1 (i : Int)) ∧ orI x (shlI 1 (i : Int)) < 2 ^ n) ∧ ∀ k, tb (orI x (shlI 1 (i : Int))) k = (tb x k || decide (k = i)) := by
  have h : ∀ k, tb (orI x (shlI 1 (i : Int))) k = (tb x k || decide (k = i)) := fun k => by rw [tb_or, tb_bit (by omega)]
  refine ⟨(mask_iff (orI_in _ _) (by omega)).mpr fun k hk => ?_, h⟩
  rw [h, (mask_iff hI (by omega)).mp hx k hk]
  have : k ≠ i := by omega
  simp [this]
theorem no_bit {x : Int} {n i : Nat} (hI : InI x) (hx : 0 ≤ x ∧ x < 2 ^ n) (hn : n < 31) (hi : i < n) : (0 ≤ andI x (xorI (shlI 1 (i : Int)) (-1)) ∧ andI x (xorI (shlI 1 (i : Int)) (-1)) < 2 ^ n) ∧ ∀ k, tb (andI x (xorI (shlI 1 (i : Int)) (-1))) k = (tb x k && !decide (k = i)) := by
  have h : ∀ k, tb (andI x (xorI (shlI 1 (i : Int)) (-1))) k = (tb x k && !decide (k = i)) := fun k => by
    by_cases hk : k < 32
    · rw [tb_and, tb_xor, tb_bit (by omega), tb_m1]
      simp [hk]
    · rw [tb_hi _ (by omega), tb_hi x (by omega)]; rfl
  refine ⟨(mask_iff (andI_in _ _) (by omega)).mpr fun k hk => ?_, h⟩
  rw [h, (mask_iff hI (by omega)).mp hx k hk]; rfl
theorem p8 : (2 : Int) ^ 8 = 256 := by decide
theorem p4 : (2 : Int) ^ 4 = 16 := by decide
theorem bit_yes {x : Int} {i : Nat} (hi : i < 32) : andI (shrI x (i : Int)) 1 = if tb x i = true then 1 else 0 := by
  rw [bit_at x hi]
/-- a step on, on both sides -/
theorem adv {ρ : St} {A N : Nat} {f : Nat → Nat} {cx : Nat → List Bool} {cd : Nat → Nat} {t a s p : Nat} {l : List (Nat × Nat)} {τ τm : St} (ha : a < A) (hA : A ≤ 8) (hW : Wld ρ A N f cx cd t (a + 1) (fun b => b ≠ a) τ τm) (hAt : AtS ρ N a A f cx cd τ τm p l) (hO : Own ρ t a τ τm s) (hs : Sc N f cd p) (hx : cx (p + 1) = cx p) :
    Wld ρ A N f cx cd t (a + 1) (fun b => b ≠ a) (up τ (39 + 7 * a) 4 ((p + 1 : Nat) : Int)) (up τm 212 a ((f p + 1 : Nat) : Int)) ∧ AtS ρ N a A f cx cd (up τ (39 + 7 * a) 4 ((p + 1 : Nat) : Int)) (up τm 212 a ((f p + 1 : Nat) : Int)) (p + 1) l ∧ Own ρ t a (up τ (39 + 7 * a) 4 ((p + 1 : Nat) : Int)) (up τm 212 a ((f p + 1 : Nat) : Int)) s := by
  obtain ⟨q1, q2, q3⟩ := hs
  obtain ⟨k1, k2, k3, k4, k5, k6, k7, d, r, hMt, hr⟩ := hAt
  refine ⟨Wld_loc ha hA hW (LocC_up LocC_rf (by omega)) (LocM_up LocM_rf (by omega)), ⟨q1, up_eq .., by rw [up_eq, q2], FrC_cg k4 (up_cell (by omega)) (funext fun i => up_cell (by omega)) (funext fun i => up_cell (by omega)), FrM_cg2 k5 (up_cell (by omega)) (fun j _ _ => ⟨up_cell (by omega), up_cell (by omega)⟩), by rw [up_slot (by omega)]; exact k6, by rw [up_cell (by omega)]; exact k7, d, r, by rw [hx]; exact hMt, by rw [q3]; exact hr⟩, ?_⟩
  refine Own_cg hO ?_ ?_ ?_
  · intro i hi; exact up_slot (by omega)
  · intro k hk; exact up_cell (by omega)
  · exact up_cell (by omega)
/-- what a deed for all leads to -/
def Hnd (ρ : St) (A N : Nat) (f : Nat → Nat) (cx : Nat → List Bool) (cd : Nat → Nat) (t j : Nat) (q : Nat → Prop) (τ τm τ' τm' : St) : Prop := Wld ρ A N f cx cd t j q τ' τm' ∧ GloC τ τ' ∧ GloM τm τm'
theorem hd_14 {ρ : St} {A N : Nat} {f : Nat → Nat} {cx : Nat → List Bool} {cd : Nat → Nat} {t j s i : Nat} {q : Nat → Prop} {τ τm : St} (hA : A ≤ 8) (hW : Wld ρ A N f cx cd t j q τ τm) (hs : s < 10) (hi : i < 4) :
    Hp2 ((rd τ 130 10 (s : Int)).bind fun x12 => (wt τ 130 10 (s : Int) (orI x12 (shlI 1 (i : Int)))).bind fun σ7 => some σ7) ((rd τm 205 10 (s : Int)).bind fun x18 => (wt τm 205 10 (s : Int) (orI x18 (shlI 1 (i : Int)))).bind fun σ19 => some σ19) (Hnd ρ A N f cx cd t j q τ τm) := by
  obtain ⟨-, ⟨-, -, w10, -⟩, -⟩ := id hW
  obtain ⟨g1, g2, g3⟩ := w10 s hs
  have e := or_bit (x := τ 130 s) (n := 4) ⟨by omega, by omega⟩ (by rw [p4]; omega) (by omega) hi
  rw [p4] at e
  rw [rd_ok (by omega) (by omega), bnd_s, Int.toNat_natCast, wt_ok (by omega) (by omega), bnd_s, Int.toNat_natCast, rd_ok (by omega) (by omega), bnd_s, Int.toNat_natCast, wt_ok (by omega) (by omega), bnd_s, Int.toNat_natCast, g1, Hp2_some]
  exact ⟨Wld_mk hA hW e.1, GloC_up GloC_rf (by omega), GloM_up GloM_rf (by omega)⟩
theorem hd_23 {ρ : St} {A N : Nat} {f : Nat → Nat} {cx : Nat → List Bool} {cd : Nat → Nat} {t j s i : Nat} {q : Nat → Prop} {τ τm : St} (hA : A ≤ 8) (hW : Wld ρ A N f cx cd t j q τ τm) (hs : s < 10) (hi : i < 4) :
    Hp2 ((rd τ 130 10 (s : Int)).bind fun x18 => (wt τ 130 10 (s : Int) (andI x18 (xorI (shlI 1 (i : Int)) (-1)))).bind fun σ19 => some σ19) ((rd τm 205 10 (s : Int)).bind fun x21 => (wt τm 205 10 (s : Int) (andI x21 (xorI (shlI 1 (i : Int)) (-1)))).bind fun σ22 => some σ22) (Hnd ρ A N f cx cd t j q τ τm) := by
  obtain ⟨-, ⟨-, -, w10, -⟩, -⟩ := id hW
  obtain ⟨g1, g2, g3⟩ := w10 s hs
  have e := no_bit (x := τ 130 s) (n := 4) ⟨by omega, by omega⟩ (by rw [p4]; omega) (by omega) hi
  rw [p4] at e
  rw [rd_ok (by omega) (by omega), bnd_s, Int.toNat_natCast, wt_ok (by omega) (by omega), bnd_s, Int.toNat_natCast, rd_ok (by omega) (by omega), bnd_s, Int.toNat_natCast, wt_ok (by omega) (by omega), bnd_s, Int.toNat_natCast, g1, Hp2_some]
  exact ⟨Wld_mk hA hW e.1, GloC_up GloC_rf (by omega), GloM_up GloM_rf (by omega)⟩
/-- burns a paper -/
theorem hd_1 {ρ : St} {A N : Nat} {f : Nat → Nat} {cx : Nat → List Bool} {cd : Nat → Nat} {t j a i : Nat} {q : Nat → Prop} {τ τm : St} (hA : A ≤ 8) (hW : Wld ρ A N f cx cd t j q τ τm) (ha : a < A) (hi : i < 8) :
    Hp2 ((pt τ (39 + 7 * a) 16 (andI (τ (39 + 7 * a) 16) (xorI (shlI 1 (i : Int)) (-1)))).bind fun σ7 => some σ7) ((rd τm 204 8 (a : Int)).bind fun x42 => (wt τm 204 8 (a : Int) (andI x42 (xorI (shlI 1 (i : Int)) (-1)))).bind fun σ43 => some σ43) (Hnd ρ A N f cx cd t j q τ τm) := by
  obtain ⟨-, ⟨-, w9, -⟩, -⟩ := id hW
  obtain ⟨g1, g2, g3⟩ := w9 a ha
  have e := no_bit (x := τm 204 a) (n := 8) ⟨by omega, by omega⟩ (by rw [p8]; omega) (by omega) hi
  rw [p8] at e
  rw [pt_s, bnd_s, rd_ok (by omega) (by omega), bnd_s, Int.toNat_natCast, wt_ok (by omega) (by omega), bnd_s, Int.toNat_natCast, ← g1, Hp2_some]
  refine ⟨Wld_pa hA hW ha e.1 ?_, GloC_up GloC_rf (by omega), GloM_up GloM_rf (by omega)⟩
  intro k hk hb
  rw [e.2, Bool.and_eq_true] at hb
  exact g3 k hk hb.1
/-- writes a paper -/
theorem knows_c {τ : St} {a i : Nat} (hi : i < 8) : m_X0_knowsSecret (39 + 7 * a) (i : Int) τ = some (if τ (44 + 7 * a) i = -1 then 0 else 1) := by
  rw [m_X0_knowsSecret, if_neg (by omega), if_neg (by omega), rd_ok (by omega) (by omega), bnd_s, Int.toNat_natCast, show 39 + 7 * a + 5 = 44 + 7 * a by omega]
  split <;> rfl
theorem hd_25 {ρ : St} {A N : Nat} {f : Nat → Nat} {cx : Nat → List Bool} {cd : Nat → Nat} {t j a i : Nat} {q : Nat → Prop} {τ τm : St} (hA : A ≤ 8) (hW : Wld ρ A N f cx cd t j q τ τm) (ha : a < A) (hi : i < 8) :
    Hp2 ((m_X0_knowsSecret (39 + 7 * a) (i : Int) τ).bind fun x22 => (if x22 = 0 then (pt τ (39 + 7 * a) 16 (orI (τ (39 + 7 * a) 16) 0)).bind fun σ24 => some σ24 else (pt τ (39 + 7 * a) 16 (orI (τ (39 + 7 * a) 16) (shlI 1 (i : Int)))).bind fun σ25 => some σ25)) ((rd τm 202 64 (wr (wr (8 * (a : Int)) + (i : Int)))).bind fun x24 => (if x24 = (-1) then some τm else (rd τm 204 8 (a : Int)).bind fun x26 => (wt τm 204 8 (a : Int) (orI x26 (shlI 1 (i : Int)))).bind fun σ27 => some σ27)) (Hnd ρ A N f cx cd t j q τ τm) := by
  obtain ⟨-, ⟨⟨rk, w8⟩, w9, -⟩, -⟩ := id hW
  obtain ⟨g1, g2, g3⟩ := w9 a ha
  have k1 := (w8 a i ha hi).1.1
  have e := or_bit (x := τm 204 a) (n := 8) ⟨by omega, by omega⟩ (by rw [p8]; omega) (by omega) hi
  rw [p8] at e
  rw [knows_c hi, bnd_s, wr_id' (x := 8 * (a : Int)) (by omega) (by omega), wr_id' (by omega) (by omega), rd_ok (by omega) (by omega), bnd_s, show (8 * (a : Int) + (i : Int)).toNat = 8 * a + i by omega, k1]
  by_cases hz : τ (44 + 7 * a) i = -1
  · rw [if_pos hz, if_pos (show (0 : Int) = 0 from rfl), if_pos hz, pt_s, bnd_s, Hp2_some]
    have e0 : orI (τ (39 + 7 * a) 16) 0 = τ (39 + 7 * a) 16 := tb_ext (orI_in _ _) ⟨by omega, by omega⟩ fun k _ => by rw [tb_or, tb_zero, Bool.or_false]
    rw [e0]
    have e1 : up τ (39 + 7 * a) 16 (τ (39 + 7 * a) 16) = τ := by
      funext k j
      by_cases hk : k = 39 + 7 * a
      · subst hk
        by_cases hj : j = 16
        · subst hj; rw [up_eq]
        · rw [up_slot hj]
      · rw [up_cell hk]
    rw [e1]
    exact ⟨hW, GloC_rf, GloM_rf⟩
  · rw [if_neg hz, if_neg (show ¬ (1 : Int) = 0 by decide), if_neg hz, pt_s, bnd_s, rd_ok (by omega) (by omega), bnd_s, Int.toNat_natCast, wt_ok (by omega) (by omega), bnd_s, Int.toNat_natCast, ← g1, Hp2_some]
    refine ⟨Wld_pa hA hW ha e.1 ?_, GloC_up GloC_rf (by omega), GloM_up GloM_rf (by omega)⟩
    intro k hk hb
    rw [e.2, Bool.or_eq_true] at hb
    rcases hb with hb | hb
    · exact g3 k hk hb
    · have : k = i := of_decide_eq_true hb
      subst this
      rw [k1]; exact hz
theorem haspaper_c {τ : St} {a i : Nat} (hi : i < 8) : m_X0_hasPaper (39 + 7 * a) (i : Int) τ = some (if tb (τ (39 + 7 * a) 16) i = true then 1 else 0) := by
  rw [m_X0_hasPaper, bit_yes (by omega)]
  split
  · rw [if_neg (by decide)]
  · rw [if_pos rfl]
theorem hasspot_c {τ : St} {s : Nat} (h2 : (s : Int) < τ 1 4) (h3 : s < 10) : m_X10_hasSpot (s : Int) τ = some 1 := by
  rw [m_X10_hasSpot, if_neg (by omega), if_neg (by omega), if_neg (by omega)]
/-- leaves a paper -/
theorem hd_12 {ρ : St} {A N : Nat} {f : Nat → Nat} {cx : Nat → List Bool} {cd : Nat → Nat} {t j a s i : Nat} {q : Nat → Prop} {τ τm : St} (hA : A ≤ 8) (hW : Wld ρ A N f cx cd t j q τ τm) (ha : a < A) (hi : i < 8) (hs : s < 10) (h9 : τ (39 + 7 * a) 9 = (s : Int)) (h14 : (s : Int) < τ 1 4) :
    Hp2 ((m_X8_leavePaper (a : Int) (39 + 7 * a) (i : Int) τ).bind fun σ7 => some σ7) ((rd τm 204 8 (a : Int)).bind fun x29 => (if andI (shrI x29 (i : Int)) 1 = 0 then some τm else (rd τm 204 8 (a : Int)).bind fun x31 => (wt τm 204 8 (a : Int) (andI x31 (xorI (shlI 1 (i : Int)) (-1)))).bind fun σ32 => (wt σ32 206 80 (wr (wr (8 * (s : Int)) + (i : Int))) (a : Int)).bind fun σ33 => some σ33)) (Hnd ρ A N f cx cd t j q τ τm) := by
  obtain ⟨-, ⟨-, w9, -, w11, -⟩, -⟩ := id hW
  obtain ⟨g1, g2, g3⟩ := w9 a ha
  obtain ⟨l1, l2⟩ := w11 s hs
  have e := no_bit (x := τm 204 a) (n := 8) ⟨by omega, by omega⟩ (by rw [p8]; omega) (by omega) hi
  have e' := or_bit (x := τ 131 s) (n := 8) ⟨by omega, by omega⟩ (by rw [p8]; omega) (by omega) hi
  rw [p8] at e e'
  rw [m_X8_leavePaper, haspaper_c hi, bnd_s, rd_ok (by omega) (by omega), bnd_s, Int.toNat_natCast, bit_yes (by omega), ← g1]
  by_cases hb : tb (τm 204 a) i = true
  · rw [if_pos hb, if_neg (show ¬ (1 : Int) = 0 by decide), if_neg (by omega), if_neg (by omega), h9, hasspot_c h14 hs, bnd_s, if_neg (show ¬ (1 : Int) = 0 by decide), pt_s, bnd_s, up_slot (by omega), h9, rd_ok (by omega) (by omega), bnd_s, Int.toNat_natCast, up_cell (by omega), wt_ok (by omega) (by omega), bnd_s, Int.toNat_natCast, up_cell (by omega), up_slot (by omega), h9, rr_ok (by omega) (by omega), bnd_s, Int.toNat_natCast, rf_lv hs, wt_ok (by omega) (by omega), bnd_s, Int.toNat_natCast, bnd_s, if_neg (show ¬ (1 : Int) = 0 by decide), bnd_s, wt_ok (by omega) (by omega), bnd_s, Int.toNat_natCast, wr_id' (x := 8 * (s : Int)) (by omega) (by omega), wr_id' (by omega) (by omega), wt_ok (by omega) (by omega), bnd_s, show (8 * (s : Int) + (i : Int)).toNat = 8 * s + i by omega, Hp2_some]
    have W1 := Wld_pa hA hW ha e.1 (fun k hk hq => g3 k hk (by rw [e.2, Bool.and_eq_true] at hq; exact hq.1))
    refine ⟨Wld_lv hA W1 ha hs hi e'.1 ?_ ?_, GloC_up (GloC_up (GloC_up GloC_rf (by omega)) (by omega)) (by omega), GloM_up (GloM_up GloM_rf (by omega)) (by omega)⟩
    · intro k hk
      rw [up_cell (by omega), e'.2, Bool.or_eq_true, decide_eq_true_iff]
    · rw [up_cell (by decide)]; exact g3 i hi hb
  · rw [if_neg hb, if_pos rfl, if_pos rfl, bnd_s, Hp2_some]
    exact ⟨hW, GloC_rf, GloM_rf⟩
