/-! IF -/
theorem dr2 : ∀ o : Fin 7, divI (2 * (o.val : Int)) 2 = some (o.val : Int) ∧ remI (2 * (o.val : Int)) 2 = some 0 ∧ divI (2 * (o.val : Int) + 1) 2 = some (o.val : Int) ∧ remI (2 * (o.val : Int) + 1) 2 = some 1 := by decide
theorem dl_9 {ρ : St} {A N : Nat} {f : Nat → Nat} {cx : Nat → List Bool} {cd : Nat → Nat} {t a s p tt k o m : Nat} {l : List (Nat × Nat)} {τ τm : St} {xk : Int} (hB : Base ρ A N f cx cd) (ha : a < A) (hW : Wld ρ A N f cx cd t (a + 1) (fun b => b ≠ a) τ τm) (hAt : AtS ρ N a A f cx cd τ τm p l) (hO : Own ρ t a τ τm s)
    (hk : (k = 14 ∧ o = 0 ∧ m = 3) ∨ (k = 17 ∧ o = 1 ∧ m = 7) ∨ (k = 10 ∧ o = 2 ∧ m = 7) ∨ (k = 8 ∧ o = 3 ∧ m = 7) ∨ (k = 24 ∧ o = 4 ∧ m = 7) ∨ (k = 11 ∧ o = 5 ∧ m = 95) ∨ (k = 22 ∧ o = 6 ∧ m = 0)) (h25 : ρ 25 p = (k : Int)) (h26 : (ρ 26 p = 1 ∧ xk = 2 * (o : Int)) ∨ (ρ 26 p = 0 ∧ xk = 2 * (o : Int) + 1)) (hx : k ≠ 22 → ρ 183 (f p) = ρ 24 p ∧ 0 ≤ ρ 24 p ∧ ρ 24 p ≤ (m : Int))
    (hs : Sc N f cd p) (hcx : cx (p + 1) = cx p) (hT : Tg N cx cd (ρ 27 p) p tt (cx p)) (h184 : ρ 184 (f p) = (f tt : Int)) :
    Hp2 ((rd τ 25 512 (p : Int)).bind fun x21 => (m_X8_testHolds (39 + 7 * a) x21 (ρ 24 p) τ).bind fun x22 => (rd τ 26 512 (p : Int)).bind fun x23 => (if x22 = x23 then (pt τ (39 + 7 * a) 4 (wr ((p : Int) + 1))).bind fun σ27 => some ((0 : Int), σ27) else (rd τ 27 512 (p : Int)).bind fun x25 => (pt τ (39 + 7 * a) 4 x25).bind fun σ26 => some (0, σ26)))
      ((divI xk 2).bind fun x67 => (rd (up τm 212 a ((f p + 1 : Nat) : Int)) 183 2000 (f p : Int)).bind fun x68 => (m_X12_holds (a : Int) x67 x68 (up τm 212 a ((f p + 1 : Nat) : Int))).bind fun x69 => (remI xk 2).bind fun x70 => (if x70 = 1 then m_X12_deed_J516 x69 (up τm 212 a ((f p + 1 : Nat) : Int)) (f p : Int) (a : Int) 1 else m_X12_deed_J516 x69 (up τm 212 a ((f p + 1 : Nat) : Int)) (f p : Int) (a : Int) 0)) (Out ρ A N f cx cd t a s) := by
  have hB' := hB
  obtain ⟨-, ⟨-, hA, -⟩, ⟨L, c, hL, b17, b7, b8, bP⟩, -⟩ := hB'
  obtain ⟨⟨w0, -⟩, -⟩ := id hW
  have hAt' := hAt
  obtain ⟨a1, a2, a3, a4, a5, a6, a7, d, a8⟩ := hAt'
  have hfb := f_bd bP hL a1
  have hN := bP.1.1
  obtain ⟨s1, s2, s3⟩ := hs
  obtain ⟨t1, t2, t3, t4⟩ := hT
  have W5 : Wld ρ A N f cx cd t (a + 1) (fun b => b ≠ a) τ (up τm 212 a ((f p + 1 : Nat) : Int)) := Wld_loc ha hA hW LocC_rf (LocM_up LocM_rf (by omega))
  have O5 : Own ρ t a τ (up τm 212 a ((f p + 1 : Nat) : Int)) s := Own_cg hO (fun _ _ => rfl) (fun k hk => up_cell (by omega)) (up_cell (by omega))
  have e183 : (up τm 212 a ((f p + 1 : Nat) : Int)) 183 (f p) = ρ 183 (f p) := by rw [up_cell (by decide), fr_m w0 (by omega)]
  have e184 : (up τm 212 a ((f p + 1 : Nat) : Int)) 184 (f p) = (f tt : Int) := by rw [up_cell (by decide), fr_m w0 (by omega)]; exact h184
  have hk' : (k = 14 ∧ o = 0 ∧ m = 3) ∨ (k = 17 ∧ o = 1 ∧ m = 7) ∨ (k = 10 ∧ o = 2 ∧ m = 7) ∨ (k = 8 ∧ o = 3 ∧ m = 7) ∨ (k = 24 ∧ o = 4 ∧ m = 7) ∨ (k = 11 ∧ o = 5 ∧ m = 95) ∨ (k = 22 ∧ o = 6) := by
    rcases hk with h | h | h | h | h | h | ⟨h1, h2, -⟩
    · exact Or.inl h
    · exact Or.inr (Or.inl h)
    · exact Or.inr (Or.inr (Or.inl h))
    · exact Or.inr (Or.inr (Or.inr (Or.inl h)))
    · exact Or.inr (Or.inr (Or.inr (Or.inr (Or.inl h))))
    · exact Or.inr (Or.inr (Or.inr (Or.inr (Or.inr (Or.inl h)))))
    · exact Or.inr (Or.inr (Or.inr (Or.inr (Or.inr (Or.inr ⟨h1, h2⟩)))))
  obtain ⟨v, hv, T1, T2⟩ := test_sp (k := k) (o := o) (m := m) (x := (ρ 24 p).toNat) (xc := ρ 24 p) (xm := ρ 183 (f p)) hB W5 ha O5 hk' (fun q => by have := hx q; omega) (fun q => by have := hx q; omega)
  have ho : o < 7 := by
    rcases hk' with ⟨-, h, -⟩ | ⟨-, h, -⟩ | ⟨-, h, -⟩ | ⟨-, h, -⟩ | ⟨-, h, -⟩ | ⟨-, h, -⟩ | ⟨-, h⟩ <;> omega
  clear hk hk'
  obtain ⟨d1, d2, d3, d4⟩ := dr2 ⟨o, ho⟩
  simp only at d1 d2 d3 d4
  have yes : Out ρ A N f cx cd t a s (0, up τ (39 + 7 * a) 4 ((p + 1 : Nat) : Int)) (up τm 212 a ((f p + 1 : Nat) : Int)) := by
    refine jump_2 ha hA hW hAt hO s1 (Stk_same hcx s3 a8) ?_ (by rw [up_eq, s2])
    intro k j n
    by_cases hk : k = 212
    · subst hk; rw [up_slot (by omega)]
    · rw [up_cell hk]
  have no : Out ρ A N f cx cd t a s (0, up τ (39 + 7 * a) 4 (tt : Int)) (up (up τm 212 a ((f p + 1 : Nat) : Int)) 212 a (f tt : Int)) := by
    refine jump_2 ha hA hW hAt hO t2 (Stk_same t3 t4 a8) ?_ (up_eq ..)
    intro k j n
    by_cases hk : k = 212
    · subst hk; rw [up_slot (by omega), up_slot (by omega)]
    · rw [up_cell hk, up_cell hk]
  have ry : ∀ x72 : Int, v ≠ x72 → m_X12_deed_J516 v (up τm 212 a ((f p + 1 : Nat) : Int)) (f p : Int) (a : Int) x72 = some (up τm 212 a ((f p + 1 : Nat) : Int)) := fun x72 h => by rw [m_X12_deed_J516, if_neg h]
  have rn : ∀ x72 : Int, v = x72 → m_X12_deed_J516 v (up τm 212 a ((f p + 1 : Nat) : Int)) (f p : Int) (a : Int) x72 = some (up (up τm 212 a ((f p + 1 : Nat) : Int)) 212 a (f tt : Int)) := fun x72 h => by
    rw [m_X12_deed_J516, if_pos h, rd_ok (by omega) (by omega), bnd_s, Int.toNat_natCast, e184, wt_ok (by omega) (by omega), bnd_s, Int.toNat_natCast]
  rw [rd_ok (by omega) (by omega), bnd_s, Int.toNat_natCast, fr_c w0 (show 25 < 39 by omega), h25, T1, bnd_s, rd_ok (by omega) (by omega), bnd_s, Int.toNat_natCast, fr_c w0 (show 26 < 39 by omega), rd_ok (by omega) (by omega), bnd_s, Int.toNat_natCast, fr_c w0 (show 27 < 39 by omega), t1, nx1 (by omega), pt_s, bnd_s, pt_s, bnd_s]
  rcases h26 with ⟨h26, hxk⟩ | ⟨h26, hxk⟩
  · rw [h26, hxk, d1, bnd_s, rd_ok (by omega) (by omega), bnd_s, Int.toNat_natCast, e183, T2, bnd_s, d2, bnd_s, if_neg (show ¬ (0 : Int) = 1 by decide)]
    rcases hv with hv | hv
    · rw [if_neg (show ¬ v = 1 by omega), rn 0 hv, Hp2_some]; exact no
    · rw [if_pos hv, ry 0 (by omega), Hp2_some]; exact yes
  · rw [h26, hxk, d3, bnd_s, rd_ok (by omega) (by omega), bnd_s, Int.toNat_natCast, e183, T2, bnd_s, d4, bnd_s, if_pos (show (1 : Int) = 1 from rfl)]
    rcases hv with hv | hv
    · rw [if_pos hv, ry 1 (by omega), Hp2_some]; exact yes
    · rw [if_neg (show ¬ v = 0 by omega), rn 1 hv, Hp2_some]; exact no
