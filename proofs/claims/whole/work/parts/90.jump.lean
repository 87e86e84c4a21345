/-! deeds that move an agent within its code -/
theorem fin_run {ρ : St} {A N : Nat} {f : Nat → Nat} {cx : Nat → List Bool} {cd : Nat → Nat} {t a s p' d : Nat} {l' : List (Nat × Nat)} {τ τm τ' τm' : St} (ha : a < A) (hA : A ≤ 8) (hW : Wld ρ A N f cx cd t (a + 1) (fun b => b ≠ a) τ τm) (hO : Own ρ t a τ τm s) (h18 : τ (39 + 7 * a) 18 = -1) (h211 : τm 211 a = 0) (hC : LocC a τ τ') (hM : LocM a τm τm') (c1 : ∀ j, j ≠ 4 → τ' (39 + 7 * a) j = τ (39 + 7 * a) j) (m1 : ∀ k j, k ≠ 212 → k ≠ 218 → k ≠ 219 → k ≠ 220 → τm' k j = τm k j)
    (hp : p' < N) (c4 : τ' (39 + 7 * a) 4 = (p' : Int)) (m4 : τm' 212 a = (f p' : Int)) (hFC : FrC τ' a l') (hFM : FrM f τm' a l') (hS : Stk A N cx cd (d + 1) p' l') : Out ρ A N f cx cd t a s (0, τ') τm' := by
  refine out_run ⟨Wld_loc ha hA hW hC hM, ⟨p', l', hp, c4, m4, hFC, hFM, ?_, ?_, d, hS⟩, Own_cg hO ?_ ?_ ?_⟩
  · rw [c1 18 (by omega)]; exact h18
  · rw [m1 211 a (by omega) (by omega) (by omega) (by omega)]; exact h211
  · intro i hi; exact c1 i (by omega)
  · intro k hk; exact m1 k a (by omega) (by omega) (by omega) (by omega)
  · exact m1 201 _ (by omega) (by omega) (by omega) (by omega)
/-- an entry more, on both sides -/
def Psh (f : Nat → Nat) (a : Nat) (e : Nat × Nat) (l : List (Nat × Nat)) (τ τm τ' τm' : St) : Prop := (LocC a τ τ' ∧ LocM a τm τm') ∧ (FrC τ' a (e :: l) ∧ FrM f τm' a (e :: l)) ∧ (∀ j, τ' (39 + 7 * a) j = τ (39 + 7 * a) j) ∧ ∀ k j, k ≠ 218 → k ≠ 219 → k ≠ 220 → τm' k j = τm k j
theorem push_2 {f : Nat → Nat} {a : Nat} {e : Nat × Nat} {l : List (Nat × Nat)} {τ τm : St} {x y z : Int} (ha : a < 8) (hC : FrC τ a l) (hM : FrM f τm a l) (hl : l.length < 64) (h1 : ckd e.1 = x) (h2 : cvl e = y) (h3 : mvl f e = z) : Hp2 (m_X3_push (39 + 7 * a + 1) x y τ) (m_X12_pushes (a : Int) (e.1 : Int) z τm) (Psh f a e l τ τm) := by
  obtain ⟨τ1, o1, q1, q2⟩ := push_c (e := e) hC hl
  obtain ⟨τm1, o2, q3, q4, q5, q6⟩ := push_m (e := e) ha hM hl
  rw [show 39 + 7 * a + 1 = 40 + 7 * a by omega, ← h1, ← h2, ← h3]
  refine ⟨τ1, τm1, o1, o2, ⟨?_, ?_⟩, ⟨q1, q3⟩, ?_, ?_⟩
  · intro k j n1 n2 n3 n4; exact q2 k j n3 n4 n2
  · intro k j n1 n2 n3
    by_cases h218 : k = 218
    · subst h218; exact q5 j (by omega)
    · by_cases h219 : k = 219
      · subst h219; exact (q6 j (by omega)).1
      · by_cases h220 : k = 220
        · subst h220; exact (q6 j (by omega)).2
        · exact q4 k j (by
            unfold inR inC inS
            simp only [List.any_cons, List.any_nil, Bool.or_false]
            rcases Nat.lt_or_ge k 218 with g | g
            · have : Nat.ble 218 k = false := Bool.eq_false_iff.mpr (fun q => by have := Nat.le_of_ble_eq_true q; omega)
              rw [this]; rfl
            · have : Nat.ble k 220 = false := Bool.eq_false_iff.mpr (fun q => by have := Nat.le_of_ble_eq_true q; omega)
              rw [this, Bool.and_false])
  · intro j; exact q2 _ _ (by omega) (by omega) (by omega)
  · intro k j n1 n2 n3
    exact q4 k j (by
      unfold inR inC inS
      simp only [List.any_cons, List.any_nil, Bool.or_false]
      rcases Nat.lt_or_ge k 218 with g | g
      · have : Nat.ble 218 k = false := Bool.eq_false_iff.mpr (fun q => by have := Nat.le_of_ble_eq_true q; omega)
        rw [this]; rfl
      · have : Nat.ble k 220 = false := Bool.eq_false_iff.mpr (fun q => by have := Nat.le_of_ble_eq_true q; omega)
        rw [this, Bool.and_false])
/-- the step put elsewhere, the stack the same -/
theorem jump_2 {ρ : St} {A N : Nat} {f : Nat → Nat} {cx : Nat → List Bool} {cd : Nat → Nat} {t a s p p' d : Nat} {l : List (Nat × Nat)} {τ τm τm' : St} (ha : a < A) (hA : A ≤ 8) (hW : Wld ρ A N f cx cd t (a + 1) (fun b => b ≠ a) τ τm) (hAt : AtS ρ N a A f cx cd τ τm p l) (hO : Own ρ t a τ τm s) (hp : p' < N) (hS : Stk A N cx cd (d + 1) p' l) (h1 : ∀ k j, ¬ (k = 212 ∧ j = a) → τm' k j = τm k j) (h2 : τm' 212 a = (f p' : Int)) : Out ρ A N f cx cd t a s (0, up τ (39 + 7 * a) 4 (p' : Int)) τm' := by
  obtain ⟨a1, a2, a3, a4, a5, a6, a7, -⟩ := hAt
  refine fin_run ha hA hW hO a6 a7 (LocC_up LocC_rf (by omega)) (fun k j n1 n2 n3 => h1 k j (by omega)) (fun j hj => up_slot hj) (fun k j n1 _ _ _ => h1 k j (by omega)) hp (up_eq ..) h2 ?_ ?_ hS
  · exact FrC_cg a4 (up_cell (by omega)) (funext fun i => up_cell (by omega)) (funext fun i => up_cell (by omega))
  · exact FrM_cg2 a5 (h1 _ _ (by omega)) (fun i _ _ => ⟨h1 _ _ (by omega), h1 _ _ (by omega)⟩)
/-- DO -/
theorem dl_3 {ρ : St} {A N : Nat} {f : Nat → Nat} {cx : Nat → List Bool} {cd : Nat → Nat} {t a s p x : Nat} {l : List (Nat × Nat)} {τ τm : St} (hB : Base ρ A N f cx cd) (ha : a < A) (hW : Wld ρ A N f cx cd t (a + 1) (fun b => b ≠ a) τ τm) (hAt : AtS ρ N a A f cx cd τ τm p l) (hO : Own ρ t a τ τm s) (hx : x < cd p) (hs : Sc N f cd p) (hcx : cx (p + 1) = cx p) :
    Hp2 ((m_X3_push (39 + 7 * a + 1) 3 (wr ((p : Int) + 1)) τ).bind fun σ12 => (m_X5_firstStep 22 (x : Int) σ12).bind fun x13 => (pt σ12 (39 + 7 * a) 4 x13).bind fun σ14 => some ((0 : Int), σ14)) ((rd (up τm 212 a ((f p + 1 : Nat) : Int)) 212 8 (a : Int)).bind fun x51 => (m_X12_pushes (a : Int) 0 x51 (up τm 212 a ((f p + 1 : Nat) : Int))).bind fun σ52 => (rd σ52 180 16 (wr (wr (8 * σ52 170 17) + (x : Int)))).bind fun x54 => (wt σ52 212 8 (a : Int) x54).bind fun σ55 => some σ55) (Out ρ A N f cx cd t a s) := by
  obtain ⟨-, ⟨-, hA, -⟩, ⟨L, c, hL, b17, b7, b8, bP⟩, -⟩ := hB
  obtain ⟨⟨w0, -⟩, -⟩ := id hW
  obtain ⟨a1, a2, a3, a4, a5, a6, a7, d, a8⟩ := hAt
  obtain ⟨⟨n1, n2, n3, n4⟩, P1, P2, P3⟩ := id bP
  obtain ⟨q1, q2, q3, -⟩ := P1 p a1
  obtain ⟨s1, s2, s3⟩ := hs
  have hfb := f_bd bP hL a1
  have hlen := Stk_len (A := A) (cx := cx) (cd := cd) (fun p hp => (P1 p hp).2.2.1) (fun p hp => by have := (P1 p hp).2.1; omega) _ p l a1 a8
  obtain ⟨b, g1, g2, g3, g4, g5⟩ := P3 x (by omega)
  have hM0 : LocM a τm (up τm 212 a ((f p + 1 : Nat) : Int)) := LocM_up LocM_rf (by omega)
  have hFM : FrM f (up τm 212 a ((f p + 1 : Nat) : Int)) a l := FrM_cg2 a5 (up_cell (by omega)) (fun i _ _ => ⟨up_cell (by omega), up_cell (by omega)⟩)
  have hfb2 := f_bd bP hL g2
  have hp2 := push_2 (e := (0, p + 1)) (x := 3) (y := ((p + 1 : Nat) : Int)) (z := ((f p + 1 : Nat) : Int)) (by omega) a4 hFM (by omega) rfl (by unfold cvl; rw [if_neg (show ¬ ((0 : Nat) = 1) by decide)]) (by unfold mvl; rw [if_pos (show (0 : Nat) = 0 from rfl)]; simp only [s2])
  rw [nx1 (by omega), rd_ok (by omega) (by omega), bnd_s, Int.toNat_natCast, up_eq]
  refine Hp2_bind (Hp2_mono hp2 ?_)
  rintro τ1 τm1 ⟨⟨hC, hM⟩, ⟨hFC1, hFM1⟩, c1, m1⟩
  have e8 : τ1 22 8 = (c : Int) := by rw [hC 22 8 (by omega) (by omega) (by omega) (by omega), fr_c w0 (by omega)]; exact b8
  have e29 : τ1 29 = ρ 29 := by rw [← fr_c w0 (show 29 < 39 by omega)]; exact funext fun i => hC 29 i (by omega) (by omega) (by omega) (by omega)
  have e17 : τm1 170 17 = (L : Int) := by rw [m1 170 17 (by omega) (by omega) (by omega), up_cell (by omega), fr_s w0 (by omega)]; exact b17
  have e180 : τm1 180 = ρ 180 := by rw [← fr_m w0 (show 171 ≤ 180 ∧ 180 ≤ 200 by omega)]; exact funext fun i => by rw [m1 180 i (by omega) (by omega) (by omega), up_cell (by omega)]
  have g1' : ρ 29 x = (b : Int) := g1
  rw [m_X5_firstStep, if_neg (by omega), e8, if_neg (by omega), if_neg (by omega), rd_ok (by omega) (by omega), bnd_s, Int.toNat_natCast, show 22 + 7 = 29 by omega, e29, g1', bnd_s, pt_s, bnd_s, e17, ix8 (by omega) (by omega), rd_ok (by omega) (by omega), bnd_s, Int.toNat_natCast, e180, g5, wt_ok (by omega) (by omega), bnd_s, Int.toNat_natCast, Hp2_some]
  refine fin_run (d := d + 1) (l' := (0, p + 1) :: l) ha hA hW hO a6 a7 (LocC_up hC (by omega)) (LocM_up (LocM_tr hM0 hM) (by omega)) ?_ ?_ g2 (up_eq ..) (up_eq ..) ?_ ?_ ?_
  · intro j hj; rw [up_slot hj]; exact c1 j
  · intro k j k1 k2 k3 k4; rw [up_cell k1, m1 k j k2 k3 k4, up_cell k1]
  · exact FrC_cg hFC1 (up_cell (by omega)) (funext fun i => up_cell (by omega)) (funext fun i => up_cell (by omega))
  · exact FrM_cg2 hFM1 (up_cell (by omega)) (fun i _ _ => ⟨up_cell (by omega), up_cell (by omega)⟩)
  · refine ⟨(0, p + 1) :: l, ?_, Or.inr ⟨p + 1, l, rfl, s1, ?_, Stk_same hcx s3 a8⟩⟩
    · rw [g3]; rfl
    · omega
/-- LOOP -/
theorem dl_13 {ρ : St} {A N : Nat} {f : Nat → Nat} {cx : Nat → List Bool} {cd : Nat → Nat} {t a s p x tt : Nat} {l : List (Nat × Nat)} {τ τm : St} (hB : Base ρ A N f cx cd) (ha : a < A) (hW : Wld ρ A N f cx cd t (a + 1) (fun b => b ≠ a) τ τm) (hAt : AtS ρ N a A f cx cd τ τm p l) (hO : Own ρ t a τ τm s) (hx : x ≤ 95) (hs : Sc N f cd p) (hcx : cx (p + 1) = true :: cx p) (hT : Tg N cx cd (ρ 27 p) p tt (cx p)) (h184 : ρ 184 (f p) = (f tt : Int)) :
    Hp2 ((m_X8_beginLoop (39 + 7 * a) (x : Int) τ).bind fun σ29 => some ((0 : Int), σ29)) (if (x : Int) = 0 then (rd (up τm 212 a ((f p + 1 : Nat) : Int)) 184 2000 (f p : Int)).bind fun x59 => (wt (up τm 212 a ((f p + 1 : Nat) : Int)) 212 8 (a : Int) x59).bind fun σ60 => some σ60 else (m_X12_pushes (a : Int) 1 (x : Int) (up τm 212 a ((f p + 1 : Nat) : Int))).bind fun σ58 => some σ58) (Out ρ A N f cx cd t a s) := by
  obtain ⟨-, ⟨-, hA, -⟩, ⟨L, c, hL, b17, b7, b8, bP⟩, -⟩ := hB
  obtain ⟨⟨w0, -⟩, -⟩ := id hW
  have hAt' := hAt
  obtain ⟨a1, a2, a3, a4, a5, a6, a7, d, a8⟩ := hAt'
  obtain ⟨⟨n1, n2, n3, n4⟩, P1, P2, P3⟩ := id bP
  obtain ⟨s1, s2, s3⟩ := hs
  have hfb := f_bd bP hL a1
  have hlen := Stk_len (A := A) (cx := cx) (cd := cd) (fun p hp => (P1 p hp).2.2.1) (fun p hp => by have := (P1 p hp).2.1; omega) _ p l a1 a8
  obtain ⟨t1, t2, t3, t4⟩ := hT
  rw [m_X8_beginLoop]
  by_cases hz : x = 0
  · subst hz
    have e184 : (up τm 212 a ((f p + 1 : Nat) : Int)) 184 (f p) = (f tt : Int) := by rw [up_cell (by omega), fr_m w0 (by omega)]; exact h184
    rw [if_neg (by decide), if_pos (by decide), a2, target_eq (n := N) (σ := ρ) (by rw [fr_c w0 (by omega)]; exact b7) n1 a1 (fr_c w0 (by omega)), bnd_s, t1, pt_s, bnd_s, bnd_s, rd_ok (by omega) (by omega), bnd_s, Int.toNat_natCast, e184, wt_ok (by omega) (by omega), bnd_s, Int.toNat_natCast, Hp2_some]
    refine jump_2 ha hA hW hAt hO t2 (Stk_same t3 t4 a8) ?_ (up_eq ..)
    intro k j n
    by_cases hk : k = 212
    · subst hk; rw [up_slot (by omega), up_slot (by omega)]
    · rw [up_cell hk, up_cell hk]
  · have hFM : FrM f (up τm 212 a ((f p + 1 : Nat) : Int)) a l := FrM_cg2 a5 (up_cell (by omega)) (fun i _ _ => ⟨up_cell (by omega), up_cell (by omega)⟩)
    have hM0 : LocM a τm (up τm 212 a ((f p + 1 : Nat) : Int)) := LocM_up LocM_rf (by omega)
    have hp2 := push_2 (e := (1, x)) (x := 13) (y := wr ((x : Int) - 1)) (z := (x : Int)) (by omega) a4 hFM (by omega) rfl (by unfold cvl; rw [if_pos (show (1 : Nat) = 1 from rfl), wr_id' (by omega) (by omega)]) (by unfold mvl; rw [if_neg (show ¬ ((1 : Nat) = 0) by decide)])
    rw [if_pos (by omega), if_neg (by omega)]
    obtain ⟨τ1, τm1, o1, o2, ⟨hC, hM⟩, ⟨hFC1, hFM1⟩, c1, m1⟩ := hp2
    rw [o1, bnd_s, c1 4, a2, nx1 (by omega), pt_s, bnd_s, bnd_s]
    rw [show m_X12_pushes (a : Int) 1 (x : Int) (up τm 212 a ((f p + 1 : Nat) : Int)) = some τm1 from o2, bnd_s, Hp2_some]
    refine fin_run (d := d) (l' := (1, x) :: l) (p' := p + 1) ha hA hW hO a6 a7 (LocC_up hC (by omega)) (LocM_tr hM0 hM) ?_ ?_ s1 (up_eq ..) ?_ ?_ hFM1 ?_
    · intro j hj; rw [up_slot hj]; exact c1 j
    · intro k j k1 k2 k3 k4; rw [m1 k j k2 k3 k4, up_cell k1]
    · rw [m1 212 a (by omega) (by omega) (by omega), up_eq, s2]
    · exact FrC_cg hFC1 (up_cell (by omega)) (funext fun i => up_cell (by omega)) (funext fun i => up_cell (by omega))
    · obtain ⟨r, r1, r2⟩ := a8
      refine ⟨r, ?_, by rw [s3]; exact r2⟩
      rw [hcx]
      exact ⟨x, l, rfl, by omega, by omega, r1⟩
/-- a loop's end with turns left -/
theorem dl_31 {ρ : St} {A N : Nat} {f : Nat → Nat} {cx : Nat → List Bool} {cd : Nat → Nat} {t a s p v tt : Nat} {l' : List (Nat × Nat)} {τ τm : St} (hB : Base ρ A N f cx cd) (ha : a < A) (hW : Wld ρ A N f cx cd t (a + 1) (fun b => b ≠ a) τ τm) (hAt : AtS ρ N a A f cx cd τ τm p ((1, v) :: l')) (hO : Own ρ t a τ τm s) (hv : 2 ≤ v) (hcx : cx p = true :: cx (p + 1)) (hT : Tg N cx cd (ρ 27 p) p tt (cx p)) :
    Hp2 ((m_X3_pop (39 + 7 * a + 1) τ).bind fun (x48, σ49) => (m_X3_push (39 + 7 * a + 1) 13 (wr (x48 - 1)) σ49).bind fun σ50 => (rd σ50 27 512 (p : Int)).bind fun x51 => (pt σ50 (39 + 7 * a) 4 x51).bind fun σ52 => some ((0 : Int), σ52)) ((rd (up τm 212 a ((f p + 1 : Nat) : Int)) 218 8 (a : Int)).bind fun x62 => (rd (up τm 212 a ((f p + 1 : Nat) : Int)) 220 512 (wr (wr (wr (64 * (a : Int)) + x62) - 1))).bind fun x63 => (wt (up τm 212 a ((f p + 1 : Nat) : Int)) 220 512 (wr (wr (wr (64 * (a : Int)) + x62) - 1)) (wr (x63 - 1))).bind fun σ64 => (wt σ64 212 8 (a : Int) (f tt : Int)).bind fun σ65 => some σ65) (Out ρ A N f cx cd t a s) := by
  obtain ⟨-, ⟨-, hA, -⟩, ⟨L, c, hL, b17, b7, b8, bP⟩, -⟩ := hB
  obtain ⟨⟨w0, -⟩, -⟩ := id hW
  obtain ⟨a1, a2, a3, a4, a5, a6, a7, d, r, hMt, hr⟩ := hAt
  obtain ⟨⟨n1, n2, n3, n4⟩, P1, P2, P3⟩ := id bP
  have hfb := f_bd bP hL a1
  obtain ⟨t1, t2, t3, t4⟩ := hT
  rw [hcx] at hMt
  obtain ⟨v', l0, hl, hv1, hv2, hMt'⟩ := hMt
  have hvv : v' = v := (congrArg Prod.snd (List.cons.inj hl).1).symm
  have hll : l0 = l' := (List.cons.inj hl).2.symm
  subst hvv; subst hll
  obtain ⟨-, m2, m3, m4, m5⟩ := pop_m a5
  have hcv : cvl (1, v') = (v' : Int) - 1 := by unfold cvl; rw [if_pos rfl]
  have hmv : mvl f (1, v') = (v' : Int) := by unfold mvl; rw [if_neg (show ¬ ((1 : Nat) = 0) by decide)]
  obtain ⟨⟨y, τ1⟩, o1, e1, e2, e3⟩ := pop_c a4
  simp only at e1 e2 e3
  rw [hcv] at e1
  subst e1
  obtain ⟨τ2, o2, e4, e5⟩ := push_c (e := (1, v' - 1)) e2 (by omega)
  have hcv2 : cvl (1, v' - 1) = wr ((v' : Int) - 1 - 1) := by unfold cvl; rw [if_pos rfl, wr_id' (by omega) (by omega)]; simp only; omega
  rw [hcv2] at o2
  have o2' : m_X3_push (40 + 7 * a) 13 (wr ((v' : Int) - 1 - 1)) τ1 = some τ2 := o2
  have e27 : τ2 27 p = (tt : Int) := by rw [e5 27 p (by omega) (by omega) (by omega), e3 27 p (by omega), fr_c w0 (by omega)]; exact t1
  rw [show 39 + 7 * a + 1 = 40 + 7 * a by omega, o1, bnd_s]
  show Hp2 ((m_X3_push (40 + 7 * a) 13 (wr ((v' : Int) - 1 - 1)) τ1).bind fun σ50 => (rd σ50 27 512 (p : Int)).bind fun x51 => (pt σ50 (39 + 7 * a) 4 x51).bind fun σ52 => some ((0 : Int), σ52)) _ _
  rw [o2', bnd_s, rd_ok (by omega) (by omega), bnd_s, Int.toNat_natCast, e27, pt_s, bnd_s]
  have ix : wr (wr (wr (64 * (a : Int)) + ((l0.length : Int) + 1)) - 1) = ((64 * a + l0.length : Nat) : Int) := by
    rw [wr_id' (x := 64 * (a : Int)) (by omega) (by omega), wr_id' (x := 64 * (a : Int) + ((l0.length : Int) + 1)) (by omega) (by omega), wr_id' (by omega) (by omega)]; omega
  rw [rd_ok (by omega) (by omega), bnd_s, Int.toNat_natCast, up_cell (by decide), m2, ix, rd_ok (by omega) (by omega), bnd_s, Int.toNat_natCast, up_cell (by decide), m5, hmv, wt_ok (by omega) (by omega), bnd_s, Int.toNat_natCast, wt_ok (by omega) (by omega), bnd_s, Int.toNat_natCast, wr_id' (x := (v' : Int) - 1) (by omega) (by omega), Hp2_some]
  obtain ⟨f1, f2, f3⟩ := id a5
  simp only [List.length_cons] at f2
  refine fin_run (d := d) (l' := (1, v' - 1) :: l0) ha hA hW hO a6 a7 ?_ ?_ ?_ ?_ t2 (up_eq ..) (up_eq ..) ?_ ?_ ?_
  · refine LocC_up (fun k j k1 k2 k3 k4 => ?_) (by omega)
    rw [e5 k j k3 k4 k2]; exact e3 k j k2
  · intro k j k1 k2 k3
    by_cases h212 : k = 212
    · subst h212; rw [up_slot (by omega), up_cell (by decide), up_slot (by omega)]
    · rw [up_cell h212]
      by_cases h220 : k = 220
      · subst h220; rw [up_slot (by omega), up_cell (by decide)]
      · rw [up_cell h220, up_cell h212]
  · intro j hj; rw [up_slot hj, e5 _ _ (by omega) (by omega) (by omega)]; exact e3 _ _ (by omega)
  · intro k j k1 k2 k3 k4; rw [up_cell k1, up_cell k4, up_cell k1]
  · exact FrC_cg e4 (up_cell (by omega)) (funext fun i => up_cell (by omega)) (funext fun i => up_cell (by omega))
  · refine ⟨?_, ?_, ?_⟩
    · rw [up_cell (by decide), up_cell (by decide), up_cell (by decide)]; exact f1
    · simp only [List.length_cons]; omega
    · intro i e he
      have hi := get_lt he
      simp only [List.length_cons] at hi ⊢
      cases i with
      | zero =>
        have he' : e = (1, v' - 1) := by simpa using he.symm
        subst he'
        rw [show l0.length + 1 - 1 - 0 = l0.length by omega]
        refine ⟨?_, ?_⟩
        · simp (disch := omega) only [up_eq, up_cell, up_slot]; exact m4
        · simp (disch := omega) only [up_eq, up_cell, up_slot]
          unfold mvl; rw [if_neg (show ¬ ((1 : Nat) = 0) by decide)]; simp only; omega
      | succ i =>
        have he' : l0[i]? = some e := by simpa using he
        have hi' := get_lt he'
        have := f3 (i + 1) e (by simpa using he')
        simp only [List.length_cons] at this
        rw [show l0.length + 1 - 1 - (i + 1) = l0.length - 1 - i by omega] at this ⊢
        refine ⟨?_, ?_⟩
        · simp (disch := omega) only [up_eq, up_cell, up_slot]; exact this.1
        · simp (disch := omega) only [up_eq, up_cell, up_slot]; exact this.2
  · refine ⟨r, ?_, by rw [t4]; exact hr⟩
    rw [t3, hcx]
    exact ⟨v' - 1, l0, rfl, by omega, by omega, hMt'⟩
