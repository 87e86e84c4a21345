/-! way -/
def cp (r : Int) : Int := if r = -1 then 1000 else r
def sm (u l w : Int) : Int := if u = -1 then -1 else if w = -1 then -1 else u + l + w
def mn (u s : Int) : Int := if s = -1 then u else if u = -1 then s else if u ≤ s then u else s
theorem cp_mn {u s : Int} (hu : -1 ≤ u ∧ u ≤ 400) (hs : -1 ≤ s ∧ s ≤ 400) : cp (mn u s) = min (cp u) (cp s) ∧ -1 ≤ mn u s ∧ mn u s ≤ 400 := by
  unfold cp mn
  refine ⟨?_, ?_, ?_⟩ <;> (repeat' split) <;> omega
theorem cp_sm {u l w : Int} (hu : -1 ≤ u ∧ u ≤ 195) (hw : -1 ≤ w ∧ w ≤ 195) (hl : 1 ≤ l ∧ l ≤ 9) : cp (sm u l w) = min 1000 (cp u + l + cp w) ∧ -1 ≤ sm u l w ∧ sm u l w ≤ 400 := by
  unfold cp sm
  refine ⟨?_, ?_, ?_⟩ <;> (repeat' split) <;> omega
theorem sum_eq {u l w : Int} {σ : St} (hu : -1 ≤ u ∧ u ≤ 195) (hw : -1 ≤ w ∧ w ≤ 195) (hl : 1 ≤ l ∧ l ≤ 9) : m_X10_sum u l w σ = some (sm u l w) := by
  unfold m_X10_sum sm
  rw [wr_id' (x := u + l) (by omega) (by omega), wr_id' (by omega) (by omega)]
  split
  · rfl
  · split <;> rfl
theorem shorten_sp {σ : St} {x y : Nat} {s : Int} (hx : x < 10) (hy : y < 10) : Hp (m_X10_shorten x y s σ) (fun σ' => Wr ([(6, 15)], []) σ σ' ∧ ∀ p q : Nat, σ' (6 + p) q = if p = x ∧ q = y then mn (σ (6 + x) y) s else σ (6 + p) q) := by
  have hin : ∀ x : Fin 10, inR ([(6, 15)], []) (6 + x.val) y = true := by
    intro x
    have : ∀ x : Fin 10, inC [(6, 15)] (6 + x.val) = true := by decide
    unfold inR
    rw [this x]; rfl
  have keepit : mn (σ (6 + x) y) s = σ (6 + x) y → Wr ([(6, 15)], []) σ σ ∧ ∀ p q : Nat, σ (6 + p) q = if p = x ∧ q = y then mn (σ (6 + x) y) s else σ (6 + p) q := by
    intro h
    refine ⟨Wr_rf, ?_⟩
    intro p q
    by_cases hc : p = x ∧ q = y
    · obtain ⟨rfl, rfl⟩ := hc
      rw [if_pos ⟨rfl, rfl⟩, h]
    · rw [if_neg hc]
  have putit : mn (σ (6 + x) y) s = s → Hp (m_X10_shorten_J29 x σ y s) (fun σ' => Wr ([(6, 15)], []) σ σ' ∧ ∀ p q : Nat, σ' (6 + p) q = if p = x ∧ q = y then mn (σ (6 + x) y) s else σ (6 + p) q) := by
    intro h
    rw [m_X10_shorten_J29, rr_ok (by omega) (by omega), bnd_s, Hp_bind, Hp_wt]
    refine ⟨by omega, ?_⟩
    simp only [Int.toNat_natCast, rf_near hx]
    rw [Hp_some]
    refine ⟨Wr_up Wr_rf (hin ⟨x, hx⟩), ?_⟩
    intro p q
    by_cases hc : p = x ∧ q = y
    · obtain ⟨rfl, rfl⟩ := hc
      rw [if_pos ⟨rfl, rfl⟩, up_eq, h]
    · rw [if_neg hc]
      by_cases hp : p = x
      · subst hp
        rw [up_slot (by omega)]
      · rw [up_cell (by omega)]
  rw [m_X10_shorten]
  by_cases h1 : s = -1
  · rw [if_pos h1, Hp_some]
    exact keepit (by unfold mn; rw [if_pos h1])
  · rw [if_neg h1, rr_ok (by omega) (by omega), bnd_s, rd_ok (by omega) (by omega), bnd_s]
    simp only [Int.toNat_natCast, rf_near hx]
    by_cases h2 : σ (6 + x) y = -1
    · rw [if_pos h2]
      exact putit (by unfold mn; rw [if_neg h1, if_pos h2])
    · rw [if_neg h2]
      rw [bnd_s, rd_ok (by omega) (by omega), bnd_s]
      simp only [Int.toNat_natCast]
      by_cases h3 : σ (6 + x) y ≤ s
      · rw [if_pos h3, Hp_some]
        exact keepit (by unfold mn; rw [if_neg h1, if_neg h2, if_pos h3])
      · rw [if_neg h3]
        exact putit (by unfold mn; rw [if_neg h1, if_neg h2, if_neg h3])
/-- what is known of the table while a way is added -/
def Tb (O : Nat → Nat → Int) (a b : Nat) (l : Int) (P : Nat → Nat → Prop) (τ : St) : Prop := ∀ p q : Nat, p < 10 → q < 10 → (-1 ≤ τ (6 + p) q ∧ τ (6 + p) q ≤ 90) ∧ (P p q → cp (τ (6 + p) q) = Fm O a b l p q) ∧ (¬ P p q → cp (τ (6 + p) q) = O p q)
theorem tb_two {E : Nat → Nat → Int → Prop} {O : Nat → Nat → Int} {a b x y : Nat} {l : Int} {P : Nat → Nat → Prop} {τ τ1 τ2 : St} (hE : isE E) (hO : isDM E O) (ha : a < 10) (hb : b < 10) (hx : x < 10) (hy : y < 10) (hl : 1 ≤ l ∧ l ≤ 9) (hT : Tb O a b l P τ) (hP : ¬ P x y)
    (h1 : ∀ p q : Nat, τ1 (6 + p) q = if p = x ∧ q = y then mn (τ (6 + x) y) (sm (τ (6 + x) a) l (τ (6 + b) y)) else τ (6 + p) q)
    (h2 : ∀ p q : Nat, τ2 (6 + p) q = if p = x ∧ q = y then mn (τ1 (6 + x) y) (sm (τ1 (6 + x) b) l (τ1 (6 + a) y)) else τ1 (6 + p) q) :
    Tb O a b l (fun p q => P p q ∨ (p = x ∧ q = y)) τ2 ∧ (-1 ≤ τ1 (6 + x) b ∧ τ1 (6 + x) b ≤ 195) ∧ (-1 ≤ τ1 (6 + a) y ∧ τ1 (6 + a) y ≤ 195) := by
  have hF := Fm_dm hE hO ha hb hl
  have hFE := Emore_isE (E := E) hE ha hb hl
  have bd : ∀ p q : Nat, p < 10 → q < 10 → (-1 ≤ τ (6 + p) q ∧ τ (6 + p) q ≤ 90) ∧ Fm O a b l p q ≤ cp (τ (6 + p) q) ∧ cp (τ (6 + p) q) ≤ O p q ∧ (cp (τ (6 + p) q) = 1000 ∨ cp (τ (6 + p) q) ≤ 90) := by
    intro p q hp hq
    obtain ⟨g1, g2, g3⟩ := hT p q hp hq
    have hle : Fm O a b l p q ≤ O p q := by unfold Fm; omega
    refine ⟨g1, ?_, ?_, ?_⟩
    · by_cases h : P p q
      · rw [g2 h]; exact Int.le_refl _
      · rw [g3 h]; exact hle
    · by_cases h : P p q
      · rw [g2 h]; exact hle
      · rw [g3 h]; exact Int.le_refl _
    · unfold cp; split <;> omega
  have t1 := dm_tri hFE hF hx ha hy
  have t2 := dm_tri hFE hF ha hb hy
  have t3 := dm_tri hFE hF hx hb hy
  have t4 := dm_tri hFE hF hb ha hy
  have ab : Fm O a b l a b ≤ l := Int.le_trans (hF.2.2.1 a b l b ha hb hb (Or.inr ⟨rfl, Or.inl ⟨rfl, rfl⟩⟩)) (by rw [hF.2.1 b hb]; omega)
  have ba : Fm O a b l b a ≤ l := Int.le_trans (hF.2.2.1 b a l a hb ha ha (Or.inr ⟨rfl, Or.inr ⟨rfl, rfl⟩⟩)) (by rw [hF.2.1 a ha]; omega)
  have f1 := hF.1 x a hx ha
  have f2 := hF.1 b y hb hy
  have f3 := hF.1 x b hx hb
  have f4 := hF.1 a y ha hy
  have oxy := (hT x y hx hy).2.2 hP
  obtain ⟨x1, x2, x3, x4⟩ := bd x y hx hy
  obtain ⟨a1, a2, a3, a4⟩ := bd x a hx ha
  obtain ⟨b1, b2, b3, b4⟩ := bd b y hb hy
  obtain ⟨c1, c2, c3, c4⟩ := bd x b hx hb
  obtain ⟨d1, d2, d3, d4⟩ := bd a y ha hy
  have hFd : Fm O a b l x y = min (O x y) (min (O x a + l + O b y) (O x b + l + O a y)) := rfl
  have hFr := hF.1 x y hx hy
  have hF90 := fun h => dm_90 hFE hF hx hy h
  have s1 := cp_sm (u := τ (6 + x) a) (l := l) (w := τ (6 + b) y) (by omega) (by omega) hl
  have m1 := cp_mn (u := τ (6 + x) y) (s := sm (τ (6 + x) a) l (τ (6 + b) y)) (by omega) s1.2
  have e1 : τ1 (6 + x) y = mn (τ (6 + x) y) (sm (τ (6 + x) a) l (τ (6 + b) y)) := by rw [h1 x y, if_pos ⟨rfl, rfl⟩]
  have v1 : cp (τ1 (6 + x) y) = min (cp (τ (6 + x) y)) (min 1000 (cp (τ (6 + x) a) + l + cp (τ (6 + b) y))) := by rw [e1, m1.1, s1.1]
  have r1 : -1 ≤ τ1 (6 + x) y ∧ τ1 (6 + x) y ≤ 195 := by
    have u1 : cp (τ1 (6 + x) y) = 1000 ∨ cp (τ1 (6 + x) y) ≤ 195 := by omega
    have u2 := m1.2
    rw [← e1] at u2
    unfold cp at u1
    split at u1 <;> omega
  have hC : (Fm O a b l x b ≤ cp (τ1 (6 + x) b) ∧ cp (τ1 (6 + x) b) ≤ O x b ∧ (cp (τ1 (6 + x) b) = 1000 ∨ cp (τ1 (6 + x) b) ≤ 195)) ∧ (-1 ≤ τ1 (6 + x) b ∧ τ1 (6 + x) b ≤ 195) := by
    by_cases hyb : y = b
    · subst hyb
      refine ⟨?_, r1⟩
      omega
    · rw [h1 x b, if_neg (by omega)]
      omega
  have hD : (Fm O a b l a y ≤ cp (τ1 (6 + a) y) ∧ cp (τ1 (6 + a) y) ≤ O a y ∧ (cp (τ1 (6 + a) y) = 1000 ∨ cp (τ1 (6 + a) y) ≤ 195)) ∧ (-1 ≤ τ1 (6 + a) y ∧ τ1 (6 + a) y ≤ 195) := by
    by_cases hxa : x = a
    · subst hxa
      refine ⟨?_, r1⟩
      omega
    · rw [h1 a y, if_neg (by omega)]
      omega
  refine ⟨?_, hC.2, hD.2⟩
  have s2 := cp_sm (u := τ1 (6 + x) b) (l := l) (w := τ1 (6 + a) y) hC.2 hD.2 hl
  have m2 := cp_mn (u := τ1 (6 + x) y) (s := sm (τ1 (6 + x) b) l (τ1 (6 + a) y)) (by omega) s2.2
  have e2 : τ2 (6 + x) y = mn (τ1 (6 + x) y) (sm (τ1 (6 + x) b) l (τ1 (6 + a) y)) := by rw [h2 x y, if_pos ⟨rfl, rfl⟩]
  have v2 : cp (τ2 (6 + x) y) = min (cp (τ1 (6 + x) y)) (min 1000 (cp (τ1 (6 + x) b) + l + cp (τ1 (6 + a) y))) := by rw [e2, m2.1, s2.1]
  have vF : cp (τ2 (6 + x) y) = Fm O a b l x y := by
    obtain ⟨⟨C1, C2, C3⟩, -⟩ := hC
    obtain ⟨⟨D1, D2, D3⟩, -⟩ := hD
    omega
  have r2 : -1 ≤ τ2 (6 + x) y ∧ τ2 (6 + x) y ≤ 90 := by
    have u2 := m2.2
    rw [← e2] at u2
    have u3 : cp (τ2 (6 + x) y) = 1000 ∨ cp (τ2 (6 + x) y) ≤ 90 := by
      rw [vF]
      by_cases h : Fm O a b l x y < 1000
      · exact Or.inr (hF90 h)
      · exact Or.inl (by omega)
    unfold cp at u3
    split at u3 <;> omega
  intro p q hp hq
  by_cases hc : p = x ∧ q = y
  · obtain ⟨rfl, rfl⟩ := hc
    exact ⟨r2, fun _ => vF, fun h => absurd (Or.inr ⟨rfl, rfl⟩) h⟩
  · rw [h2 p q, if_neg hc, h1 p q, if_neg hc]
    obtain ⟨g1, g2, g3⟩ := hT p q hp hq
    exact ⟨g1, fun h => g2 (h.resolve_right hc), fun h => g3 (fun h' => h (Or.inl h'))⟩
theorem addw_b {E : Nat → Nat → Int → Prop} {O : Nat → Nat → Int} {a b x S : Nat} {l : Int} {τ0 : St} (hE : isE E) (hO : isDM E O) (ha : a < 10) (hb : b < 10) (hx : x < 10) (hS : S ≤ 10) (hl : 1 ≤ l ∧ l ≤ 9) (hs : τ0 1 4 = S) (hoff : ∀ p q, p < 10 → q < 10 → S ≤ q → Fm O a b l p q = O p q) (h0 : Tb O a b l (fun p _ => p < x) τ0) :
    Hp (lp (fun z => m_X10_addWay_L56 (x : Int) (a : Int) (b : Int) l z.1 z.2) (0, τ0)) (fun τ => Wr ([(6, 15)], []) τ0 τ ∧ Tb O a b l (fun p _ => p < x + 1) τ) := by
  refine Hp_up (fun j (z : Int × St) => z.1 = (j : Int) ∧ Wr ([(6, 15)], []) τ0 z.2 ∧ Tb O a b l (fun p q => p < x ∨ (p = x ∧ q < j)) z.2) 0 S (by omega) (by omega) ⟨rfl, Wr_rf, ?_⟩ ?_ ?_
  · intro p q hp hq
    obtain ⟨g1, g2, g3⟩ := h0 p q hp hq
    exact ⟨g1, fun h => g2 (by omega), fun h => g3 (by omega)⟩
  · rintro j ⟨y, τ⟩ - h2 ⟨e1, e2, e3⟩
    simp only at e1 e2 e3
    subst e1
    have hnx : wr ((j : Int) + 1) = ((j + 1 : Nat) : Int) := by rw [wr_id' (by omega) (by omega)]; omega
    have f1 : τ 1 4 = S := (e2 1 4 rfl).trans hs
    have rA := (e3 x a hx ha).1
    have rB := (e3 b j hb (by omega)).1
    simp only [m_X10_addWay_L56]
    rw [if_neg (by omega), rr_ok (by omega) (by omega), bnd_s, rd_ok (by omega) (by omega), bnd_s, rr_ok (by omega) (by omega), bnd_s, rd_ok (by omega) (by omega), bnd_s]
    simp only [Int.toNat_natCast, rf_near hx, rf_near hb, rf_near ha]
    rw [sum_eq (by omega) (by omega) hl, bnd_s, Hp_bind]
    refine Hp_mono (shorten_sp hx (by omega)) ?_
    rintro τ1 ⟨w1, q1⟩
    have r2 : (-1 ≤ τ1 (6 + x) b ∧ τ1 (6 + x) b ≤ 195) ∧ (-1 ≤ τ1 (6 + a) j ∧ τ1 (6 + a) j ≤ 195) :=
      (tb_two (τ2 := fun k i => if k = 6 + x ∧ i = j then mn (τ1 (6 + x) j) (sm (τ1 (6 + x) b) l (τ1 (6 + a) j)) else τ1 k i) hE hO ha hb hx (by omega) hl e3 (by omega) q1 (fun p q => by
        by_cases hc : p = x ∧ q = j
        · rw [if_pos hc, if_pos (by omega)]
        · rw [if_neg hc, if_neg (by omega)])).2
    rw [bnd_s, rd_ok (by omega) (by omega), bnd_s, rr_ok (by omega) (by omega), bnd_s, rd_ok (by omega) (by omega), bnd_s]
    simp only [Int.toNat_natCast, rf_near hx, rf_near hb, rf_near ha]
    rw [sum_eq r2.1 r2.2 hl, bnd_s, Hp_bind]
    refine Hp_mono (shorten_sp hx (by omega)) ?_
    rintro τ2 ⟨w2, q2⟩
    rw [Hp_some, Lq_inl, hnx]
    refine ⟨rfl, Wr_tr e2 (Wr_tr w1 w2), ?_⟩
    have hTb := (tb_two hE hO ha hb hx (by omega) hl e3 (by omega) q1 q2).1
    intro p q hp hq
    obtain ⟨g1, g2, g3⟩ := hTb p q hp hq
    exact ⟨g1, fun h => g2 (by omega), fun h => g3 (by omega)⟩
  · rintro ⟨y, τ⟩ ⟨e1, e2, e3⟩
    simp only at e1 e2 e3
    subst e1
    have f1 : τ 1 4 = S := (e2 1 4 rfl).trans hs
    simp only [m_X10_addWay_L56]
    rw [if_pos (by omega), Hp_some, Lq_inr]
    refine ⟨e2, ?_⟩
    intro p q hp hq
    obtain ⟨g1, g2, g3⟩ := e3 p q hp hq
    refine ⟨g1, fun h => ?_, fun h => g3 (by omega)⟩
    by_cases hq2 : p < x ∨ (p = x ∧ q < S)
    · exact g2 hq2
    · rw [hoff p q hp hq (by omega)]; exact g3 hq2
theorem addw_a {E : Nat → Nat → Int → Prop} {O : Nat → Nat → Int} {a b S : Nat} {l : Int} {τ0 : St} (hE : isE E) (hO : isDM E O) (ha : a < 10) (hb : b < 10) (hS : S ≤ 10) (hl : 1 ≤ l ∧ l ≤ 9) (hs : τ0 1 4 = S) (hoff : ∀ p q, p < 10 → q < 10 → S ≤ p ∨ S ≤ q → Fm O a b l p q = O p q) (h0 : Tb O a b l (fun _ _ => False) τ0) :
    Hp (lp (fun z => m_X10_addWay_L44 (a : Int) (b : Int) l z.1 z.2) (0, τ0)) (fun τ => Wr ([(6, 15)], []) τ0 τ ∧ Tb O a b l (fun _ _ => True) τ) := by
  refine Hp_up (fun j (z : Int × St) => z.1 = (j : Int) ∧ Wr ([(6, 15)], []) τ0 z.2 ∧ Tb O a b l (fun p _ => p < j) z.2) 0 S (by omega) (by omega) ⟨rfl, Wr_rf, ?_⟩ ?_ ?_
  · intro p q hp hq
    obtain ⟨g1, g2, g3⟩ := h0 p q hp hq
    exact ⟨g1, fun h => absurd h (by omega), fun h => g3 id⟩
  · rintro j ⟨y, τ⟩ - h2 ⟨e1, e2, e3⟩
    simp only at e1 e2 e3
    subst e1
    have hnx : wr ((j : Int) + 1) = ((j + 1 : Nat) : Int) := by rw [wr_id' (by omega) (by omega)]; omega
    have f1 : τ 1 4 = S := (e2 1 4 rfl).trans hs
    simp only [m_X10_addWay_L44]
    rw [if_neg (by omega), Hp_bind]
    refine Hp_mono (addw_b hE hO ha hb (by omega) hS hl f1 (fun p q hp hq h => hoff p q hp hq (Or.inr h)) e3) ?_
    rintro τ1 ⟨w1, q1⟩
    rw [Hp_some, Lq_inl, hnx]
    exact ⟨rfl, Wr_tr e2 w1, q1⟩
  · rintro ⟨y, τ⟩ ⟨e1, e2, e3⟩
    simp only at e1 e2 e3
    subst e1
    have f1 : τ 1 4 = S := (e2 1 4 rfl).trans hs
    simp only [m_X10_addWay_L44]
    rw [if_pos (by omega), Hp_some, Lq_inr]
    refine ⟨e2, ?_⟩
    intro p q hp hq
    obtain ⟨g1, g2, g3⟩ := e3 p q hp hq
    refine ⟨g1, fun _ => ?_, fun h => absurd trivial h⟩
    by_cases hpS : p < S
    · exact g2 hpS
    · rw [hoff p q hp hq (Or.inl (by omega))]; exact g3 hpS
/-- a way more on both sides -/
theorem addw_sp {σ : St} {a b : Nat} {l : Int} (hT : iTown σ) (hN : iNear σ) (ha : (a : Int) < σ 1 4) (hb : (b : Int) < σ 1 4) (hab : a ≠ b) (hl : 1 ≤ l ∧ l ≤ 9) (hn : σ 1 5 < 24) :
    Hp (m_X10_addWay a b l σ) (fun r => r.1 = σ 1 5 ∧ Wr ([(2, 4), (6, 15)], [(1, 5)]) σ r.2 ∧ r.2 1 5 = σ 1 5 + 1 ∧ (∀ w : Nat, (w : Int) < σ 1 5 → r.2 2 w = σ 2 w ∧ r.2 3 w = σ 3 w ∧ r.2 4 w = σ 4 w) ∧ (∀ w : Nat, (w : Int) = σ 1 5 → r.2 2 w = a ∧ r.2 3 w = b ∧ r.2 4 w = l) ∧ iNear r.2) := by
  have t1 := hT.1
  have t2 := hT.2.1
  obtain ⟨n, hn'⟩ := Int.eq_ofNat_of_zero_le t2.2.1
  obtain ⟨S, hS⟩ := Int.eq_ofNat_of_zero_le t1.2.1
  have hE := town_isE hT (Int.le_refl (σ 1 5))
  have hO := hN.1
  have hends : ∀ x y m, Edge σ (σ 1 5) x y m → x < S ∧ y < S := by
    rintro x y m ⟨w, h1, h2, h3⟩
    obtain ⟨A, B, L, e1, e2, e3, -, -, -, -, -, -, -, -, g1, g2⟩ := town_way hT h1
    omega
  have hoff : ∀ p q, p < 10 → q < 10 → S ≤ p ∨ S ≤ q → Fm (nM σ) a b l p q = nM σ p q := by
    intro p q hp hq h
    have i0 := hO.1 p q hp hq
    have i1 := hO.1 p a hp (by omega)
    have i2 := hO.1 b q (by omega) hq
    have i3 := hO.1 p b hp (by omega)
    have i4 := hO.1 a q (by omega) hq
    unfold Fm
    rcases h with h | h
    · have j1 := dm_off hO (a := p) (b := a) hp (by omega) (by omega) (Or.inl (fun x m he => by have := hends _ _ _ he; omega))
      have j2 := dm_off hO (a := p) (b := b) hp (by omega) (by omega) (Or.inl (fun x m he => by have := hends _ _ _ he; omega))
      omega
    · have j1 := dm_off hO (a := b) (b := q) (by omega) hq (by omega) (Or.inr (fun y m he => by have := hends _ _ _ he; omega))
      have j2 := dm_off hO (a := a) (b := q) (by omega) hq (by omega) (Or.inr (fun y m he => by have := hends _ _ _ he; omega))
      omega
  rw [m_X10_addWay, if_pos hn, Hp_bind, Hp_wt]
  refine ⟨by omega, ?_⟩
  rw [Hp_bind, Hp_wt]
  simp (disch := decide) only [up_eq, up_cell, up_slot, Int.toNat_natCast, true_and, and_true, eq_self]
  refine ⟨by omega, ?_⟩
  rw [Hp_bind, Hp_wt]
  try simp (disch := decide) only [up_eq, up_cell, up_slot, Int.toNat_natCast, true_and, and_true, eq_self]
  refine ⟨by omega, ?_⟩
  have hn2 : (σ 1 5).toNat = n := by omega
  rw [hn2]
  rw [Hp_bind]
  have h0 : Tb (nM σ) a b l (fun _ _ => False) (up (up (up σ 2 n a) 3 n b) 4 n l) := by
    intro p q hp hq
    rw [up_cell (by omega), up_cell (by omega), up_cell (by omega)]
    have := hN.2 p q hp hq
    refine ⟨⟨this.1, ?_⟩, fun h => absurd h id, fun _ => rfl⟩
    by_cases hne : σ (6 + p) q = -1
    · omega
    · have e : nM σ p q = σ (6 + p) q := by unfold nM; rw [if_neg hne]
      have := dm_90 hE hO hp hq (by omega)
      omega
  refine Hp_mono (addw_a (S := S) hE hO (by omega) (by omega) (by omega) hl (by simp (disch := decide) only [up_eq, up_cell, up_slot, Int.toNat_natCast, true_and, and_true, eq_self]; exact hS) hoff h0) ?_
  rintro τ ⟨w1, q1⟩
  have c15 : τ 1 5 = σ 1 5 := by
    rw [w1 1 5 rfl]
    simp (disch := decide) only [up_eq, up_cell, up_slot, Int.toNat_natCast, true_and, and_true, eq_self]
  rw [Hp_bind, Hp_pt, Hp_some]
  have u : ∀ c j : Nat, 2 ≤ c → c ≤ 4 → up τ 1 5 (wr (τ 1 5 + 1)) c j = up (up (up σ 2 n a) 3 n b) 4 n l c j := by
    intro c j h1 h2
    rw [up_cell (by omega)]
    have : c = 2 ∨ c = 3 ∨ c = 4 := by omega
    rcases this with q | q | q <;> subst q <;> exact w1 _ j rfl
  have hwr : wr (τ 1 5 + 1) = σ 1 5 + 1 := by rw [c15, wr_id' (by omega) (by omega)]
  have uo : ∀ w : Nat, (w : Int) < σ 1 5 → up τ 1 5 (wr (τ 1 5 + 1)) 2 w = σ 2 w ∧ up τ 1 5 (wr (τ 1 5 + 1)) 3 w = σ 3 w ∧ up τ 1 5 (wr (τ 1 5 + 1)) 4 w = σ 4 w := by
    intro w hw
    have hwn : w ≠ n := by omega
    rw [u 2 w (by omega) (by omega), u 3 w (by omega) (by omega), u 4 w (by omega) (by omega)]
    simp only [up, hwn, and_false, if_false]
    simp
  have un : up τ 1 5 (wr (τ 1 5 + 1)) 2 n = a ∧ up τ 1 5 (wr (τ 1 5 + 1)) 3 n = b ∧ up τ 1 5 (wr (τ 1 5 + 1)) 4 n = l := by
    rw [u 2 n (by omega) (by omega), u 3 n (by omega) (by omega), u 4 n (by omega) (by omega)]
    simp [up]
  refine ⟨by simp only; omega, ?_, ?_, uo, ?_, ?_⟩
  · exact Wr_up (Wr_tr (Wr_up (Wr_up (Wr_up Wr_rf rfl) rfl) rfl) (Wr_sb w1 rfl)) rfl
  · simp only [up_eq]; exact hwr
  · intro w hw
    have : w = n := by omega
    subst this
    exact un
  · have hM : ∀ p q, p < 10 → q < 10 → nM (up τ 1 5 (wr (τ 1 5 + 1))) p q = Fm (nM σ) a b l p q := by
      intro p q hp hq
      have := (q1 p q hp hq).2.1 trivial
      unfold nM
      rw [up_cell (by omega)]
      exact this
    have hEE : ∀ x y m, Edge (up τ 1 5 (wr (τ 1 5 + 1))) (σ 1 5 + 1) x y m ↔ Emore (Edge σ (σ 1 5)) a b l x y m := by
      intro x y m
      unfold Emore
      constructor
      · rintro ⟨w, g1, g2, g3⟩
        by_cases hw : w = n
        · subst hw
          right
          rw [un.1, un.2.1] at g3
          rw [un.2.2] at g2
          omega
        · left
          obtain ⟨v1, v2, v3⟩ := uo w (by omega)
          rw [v1, v2] at g3
          rw [v3] at g2
          exact ⟨w, by omega, g2, g3⟩
      · rintro (⟨w, g1, g2, g3⟩ | ⟨g1, g2⟩)
        · obtain ⟨v1, v2, v3⟩ := uo w (by omega)
          refine ⟨w, by omega, ?_, ?_⟩
          · rw [v3]; exact g2
          · rw [v1, v2]; exact g3
        · refine ⟨n, by omega, ?_, ?_⟩
          · rw [un.2.2]; exact g1.symm
          · rw [un.1, un.2.1]; omega
    refine ⟨?_, ?_⟩
    · have e5 : up τ 1 5 (wr (τ 1 5 + 1)) 1 5 = σ 1 5 + 1 := by rw [up_eq]; exact hwr
      simp only
      rw [e5]
      exact isDM_cg (Fm_dm hE hO (by omega) (by omega) hl) hEE hM
    · intro p q hp hq
      simp only
      rw [up_cell (by omega)]
      have := (q1 p q hp hq).1
      omega
theorem c_way : PS_way Inv := by
  intro σ a1 a2 a3 hok hI h1 h2 h3
  apply ps_of
  have hI2 := hI
  obtain ⟨k1, k2, k3, k4, k5, k6, k7, k8, k9, k10, k11⟩ := hI2
  have hq := inv_thr (x := 0) hI
  have k1' := k1
  obtain ⟨t1, t2, t3⟩ := k1'
  clear k3 k4 k5 k6 k7 k9 k10 k11
  have hbad : ¬ ((0 ≤ a1 ∧ a1 < σ 1 4) ∧ (0 ≤ a2 ∧ a2 < σ 1 4) ∧ a1 ≠ a2 ∧ 1 ≤ a3 ∧ a3 ≤ 9 ∧ σ 1 5 < 24) → Hp (m_X12_way a1 a2 a3 σ) (fun q => q.1 = -1 ∧ Inv q.2) := by
    intro hc
    simp only [m_X12_way, Hp_bind, Hp_pt, m_isSpot_eq]
    simp (disch := decide) only [up_eq, up_cell, up_slot, Int.toNat_natCast, true_and, and_true, eq_self]
    by_cases c1 : σ 170 31 = 24
    · rw [if_pos c1, Hp_some]; exact ⟨rfl, hq⟩
    · rw [if_neg c1, bnd_s, t1.1]
      by_cases c2 : 0 ≤ a1 ∧ a1 < σ 1 4
      · simp only [if_pos c2, Int.reduceEq, if_false]
        rw [bnd_s]
        by_cases c3 : 0 ≤ a2 ∧ a2 < σ 1 4
        · simp only [if_pos c3, Int.reduceEq, if_false]
          by_cases c4 : a1 = a2
          · rw [if_pos c4, Hp_some]; exact ⟨rfl, hq⟩
          · rw [if_neg c4]
            by_cases c5 : a3 < 1
            · rw [if_pos c5, Hp_some]; exact ⟨rfl, hq⟩
            · rw [if_neg c5, if_neg (by omega), Hp_some]; exact ⟨rfl, hq⟩
        · simp only [if_neg c3, if_true, Hp_some]; exact ⟨by trivial, hq⟩
      · simp only [if_neg c2, if_true, Hp_some]; exact ⟨by trivial, hq⟩
  rw [m_X11_way, hasSpot_eq (by omega), bnd_s]
  by_cases c2 : 0 ≤ a1 ∧ a1 < σ 1 4
  · simp only [if_pos c2, Int.reduceEq, if_false]
    rw [hasSpot_eq (by omega), bnd_s]
    by_cases c3 : 0 ≤ a2 ∧ a2 < σ 1 4
    · simp only [if_pos c3, Int.reduceEq, if_false]
      by_cases c4 : a1 = a2
      · rw [if_pos c4, Hp_some]; exact hbad (by omega)
      · rw [if_neg c4]
        by_cases c5 : a3 < 1
        · rw [if_pos c5, Hp_some]; exact hbad (by omega)
        · rw [if_neg c5]
          by_cases c6 : a3 ≤ 9
          · rw [if_pos c6]
            by_cases c7 : σ 1 5 < 24
            · obtain ⟨a, rfl⟩ := Int.eq_ofNat_of_zero_le c2.1
              obtain ⟨b, rfl⟩ := Int.eq_ofNat_of_zero_le c3.1
              obtain ⟨n, hn⟩ := Int.eq_ofNat_of_zero_le t2.2.1
              rw [Hp_bind]
              refine Hp_mono (addw_sp k1 k2 c2.2 c3.2 (by omega) (by omega) c7) ?_
              rintro ⟨y, σ1⟩ ⟨g1, g2, g3, g4, g5, g6⟩
              simp only at g1 g2 g3 g4 g5 g6
              rw [Hp_some]
              have f31 : σ1 170 31 = σ 1 5 := (g2 170 31 rfl).trans t2.1
              have f30 : σ1 170 30 = σ 1 4 := (g2 170 30 rfl).trans t1.1
              have f14 : σ1 1 4 = σ 1 4 := g2 1 4 rfl
              simp only [m_X12_way, Hp_bind, Hp_pt, m_isSpot_eq]
              simp (disch := decide) only [up_eq, up_cell, up_slot, Int.toNat_natCast, true_and, and_true, eq_self]
              rw [if_neg (by omega), bnd_s, f30]
              simp only [if_pos c2, Int.reduceEq, if_false]
              rw [bnd_s]
              simp only [if_pos c3, Int.reduceEq, if_false]
              rw [if_neg c4, if_neg c5, if_pos c6]
              simp only [Hp_bind, Hp_wt, Hp_pt, Hp_some]
              simp (disch := decide) only [up_eq, up_cell, up_slot, Int.toNat_natCast, true_and, and_true, eq_self]
              rw [f31, hn]
              simp (disch := omega) only [wr_id', Int.toNat_natCast]
              refine ⟨by omega, by omega, by omega, by omega, ?_⟩
              have hwA : Wr ([(2, 4), (6, 15), (187, 189)], [(1, 5), (170, 0), (170, 31), (170, 74)]) σ (up (up (up (up (up (up σ1 170 0 0) 187 n ↑a) 188 n ↑b) 189 n a3) 170 31 (↑n + 1)) 170 74 (-1)) :=
                Wr_up (Wr_up (Wr_up (Wr_up (Wr_up (Wr_up (Wr_sb g2 rfl) rfl) rfl) rfl) rfl) rfl) rfl
              refine inv_step (L := ([(2, 4), (6, 15), (187, 189)], [(1, 5), (170, 0), (170, 31), (170, 74)])) hI ?_ (Or.inr ?_) (Or.inr ?_) (Or.inl (by decide +kernel)) (Or.inl (by decide +kernel)) (Or.inl (by decide +kernel)) (Or.inl (by decide +kernel)) (Or.inl (by decide +kernel)) (Or.inr ?_) (Or.inl (by decide +kernel)) (Or.inl (by decide +kernel)) (Or.inl (by decide +kernel))
              · exact hwA
              · refine ⟨?_, ?_, ?_⟩
                · simp (disch := decide) only [up_eq, up_cell, up_slot, Int.toNat_natCast, true_and, and_true, eq_self]
                  rw [f30, f14]
                  exact ⟨by trivial, t1.2⟩
                · simp (disch := decide) only [up_eq, up_cell, up_slot, Int.toNat_natCast, true_and, and_true, eq_self]
                  rw [g3]
                  omega
                · intro w hw
                  simp (disch := decide) only [up_eq, up_cell, up_slot, Int.toNat_natCast, true_and, and_true, eq_self]
                  have hw' : (w : Int) < σ 1 5 + 1 := by
                    have := hw
                    simp (disch := decide) only [up_cell, g3] at this
                    exact this
                  rw [f14]
                  by_cases hwn : w = n
                  · subst hwn
                    obtain ⟨v1, v2, v3⟩ := g5 w (by omega)
                    rw [v1, v2, v3]
                    simp [up]
                    omega
                  · obtain ⟨v1, v2, v3⟩ := g4 w (by omega)
                    have := t3 w (by omega)
                    rw [v1, v2, v3]
                    simp (disch := omega) only [up_cell, up_slot]
                    rw [g2 187 w rfl, g2 188 w rfl, g2 189 w rfl]
                    exact this
              · refine keep (M := ([(187, 189)], [(170, 0), (170, 31), (170, 74)])) dep_iNear ?_ (by decide +kernel) g6
                exact Wr_up (Wr_up (Wr_up (Wr_up (Wr_up (Wr_up Wr_rf rfl) rfl) rfl) rfl) rfl) rfl
              · left
                rw [up_eq]
            · rw [m_X10_addWay, if_neg c7, bnd_s, Hp_some]; exact hbad (by omega)
          · rw [if_neg c6, Hp_some]; exact hbad (by omega)
    · simp only [if_neg c3, if_true, Hp_some]; exact hbad (by omega)
  · simp only [if_neg c2, if_true, Hp_some]; exact hbad (by omega)
