/-! fed: the model's side, and the call -/
theorem cnt_mn {S : Nat → Bool} {i : Nat} : ∀ d, cnt S i ≤ cnt S (i + d) := by
  intro d
  induction d with
  | zero => exact Nat.le_refl _
  | succ d ih =>
    have : cnt S (i + (d + 1)) = cnt S (i + d) + (if S (i + d) = true then 1 else 0) := rfl
    rw [this]; omega
theorem cnt_s {S : Nat → Bool} {i : Nat} (h : S i = true) : cnt S (i + 1) = cnt S i + 1 := by
  have : cnt S (i + 1) = cnt S i + (if S i = true then 1 else 0) := rfl
  rw [this, if_pos h]
theorem cnt_n {S : Nat → Bool} {i : Nat} (h : ¬ S i = true) : cnt S (i + 1) = cnt S i := by
  have : cnt S (i + 1) = cnt S i + (if S i = true then 1 else 0) := rfl
  rw [this, if_neg h]; rfl
theorem cnt_ex {S : Nat → Bool} {K : Nat} : ∀ n, K < cnt S n → ∃ i, i < n ∧ S i = true ∧ cnt S i = K := by
  intro n
  induction n with
  | zero => intro h; exact absurd h (Nat.not_lt_zero _)
  | succ n ih =>
    intro h
    by_cases hS : S n = true
    · rw [cnt_s hS] at h
      by_cases hK : K < cnt S n
      · obtain ⟨i, h1, h2⟩ := ih hK
        exact ⟨i, by omega, h2⟩
      · exact ⟨n, by omega, hS, by omega⟩
    · rw [cnt_n hS] at h
      obtain ⟨i, h1, h2⟩ := ih h
      exact ⟨i, by omega, h2⟩
theorem cnt_inj {S : Nat → Bool} {i j : Nat} (hi : S i = true) (hj : S j = true) (h : cnt S i = cnt S j) : i = j := by
  have key : ∀ a b, S a = true → a < b → cnt S a < cnt S b := by
    intro a b ha hab
    have h1 := cnt_s ha
    have h2 := cnt_mn (S := S) (i := a + 1) (b - (a + 1))
    rw [show a + 1 + (b - (a + 1)) = b by omega] at h2
    omega
  by_cases h1 : i < j
  · have := key i j hi h1; omega
  · by_cases h2 : j < i
    · have := key j i hj h2; omega
    · omega
theorem lf_const {S : Nat → Bool} {W m : Nat} : ∀ d i, i + d ≤ 8 → cnt S i = cnt S (i + d) → lf S W m (8 - i) = lf S W m (8 - (i + d)) := by
  intro d
  induction d with
  | zero => intro i _ _; rfl
  | succ d ih =>
    intro i h1 h2
    have hS : ¬ S i = true := by
      intro q
      have e1 := cnt_s q
      have e2 := cnt_mn (S := S) (i := i + 1) d
      rw [show i + 1 + d = i + (d + 1) by omega] at e2
      omega
    have e3 := ih (i + 1) (by omega) (by rw [cnt_n hS, h2, show i + 1 + d = i + (d + 1) by omega])
    rw [show i + (d + 1) = i + 1 + d by omega, ← e3, show 8 - i = (8 - (i + 1)) + 1 by omega]
    show (if S (7 - (8 - (i + 1))) = true then lf S W m (8 - (i + 1)) / W else lf S W m (8 - (i + 1))) = _
    rw [show 7 - (8 - (i + 1)) = i by omega, if_neg hS]
theorem lf_le {S : Nat → Bool} {W m : Nat} : ∀ k, lf S W m k ≤ m := by
  intro k
  induction k with
  | zero => exact Nat.le_refl _
  | succ k ih =>
    unfold lf
    split
    · exact Nat.le_trans (Nat.div_le_self _ _) ih
    · exact ih
/-- the model's row of suspects -/
def RwM (S : Nat → Bool) (r : Nat → Int) (τ : St) : Prop := ∀ i, i < 8 → S i = true → τ 231 (cnt S i) = (i : Int) ∧ τ 230 i = r i
theorem q_l (j : Int) (τ : St) : m_X12_worstOf_L3 j τ = if (3 : Int) ≤ j then some (.inr τ) else (wt τ 233 3 j 0).bind fun τ' => some (.inl (wr (j + 1), τ')) := by rw [m_X12_worstOf_L3]
theorem pk_hi {S : Nat → Bool} {W m w : Nat} {r : Nat → Int} (hW : W = 1 ∨ W = 2 ∨ W = 3) (hw : W ≤ w) : pk S W r m w = 0 := by
  apply pcP_0
  rintro s ⟨i, h1, h2, h3, h4⟩
  have := dg_lt (S := S) (m := m) (i := i) hW
  omega
theorem worst_m {S : Nat → Bool} {W m : Nat} {r : Nat → Int} {τ0 : St} (hW : W = 1 ∨ W = 2 ∨ W = 3) (hr : Rq r) (hm : m < PP S W 8) (hR : RwM S r τ0) :
    Hp (m_X12_worstOf (m : Int) (cnt S 8 : Nat) (W : Int) τ0) (fun q => q.1 = (wv S W r m : Int) ∧ Wr ([(232, 233)], []) τ0 q.2 ∧ (∀ i, i < 8 → S i = true → q.2 232 (cnt S i) = (dg S W m i : Int)) ∧ ∀ w, w < 3 → Bs (q.2 233 w) (Kw S W r m w)) := by
  have hPP := PP8 (S := S) hW
  have hc8 := cnt_le S 8
  have hWI : (W : Int) = 1 ∨ (W : Int) = 2 ∨ (W : Int) = 3 := by omega
  obtain ⟨τ1, o1, w1, z1⟩ := fill_sp (f := fun a => m_X12_worstOf_L3 a.1 a.2) (σ := τ0) (c := 233) (N := 3) (NI := 3) (v := 0) (by omega) (by omega) q_l
  have hL : Hp (lp (fun z => m_X12_worstOf_L31 (W : Int) z.1 z.2.1 z.2.2) ((m : Int), ((cnt S 8 : Nat) : Int) - 1, τ1)) (fun τ => Wr ([(232, 233)], []) τ0 τ ∧ (∀ i, i < 8 → S i = true → τ 232 (cnt S i) = (dg S W m i : Int)) ∧ ∀ w, w < 3 → Bs (τ 233 w) (Kw S W r m w)) := by
    refine Hp_dn (fun K (z : Int × Int × St) => z.2.1 = (K : Int) - 1 ∧ K ≤ cnt S 8 ∧ Wr ([(232, 233)], []) τ0 z.2.2 ∧ (∀ i, i ≤ 8 → cnt S i = K → z.1 = (lf S W m (8 - i) : Int)) ∧ (∀ i, i < 8 → S i = true → K ≤ cnt S i → z.2.2 232 (cnt S i) = (dg S W m i : Int)) ∧ ∀ w, w < 3 → Bs (z.2.2 233 w) (fun s => ∃ i, i < 8 ∧ S i = true ∧ K ≤ cnt S i ∧ dg S W m i = w ∧ tb (r i) s = true)) (cnt S 8) (by omega) ⟨rfl, Nat.le_refl _, Wr_sb w1 rfl, ?_, ?_, ?_⟩ ?_ ?_
    · intro i hi hcn
      have := lf_const (S := S) (W := W) (m := m) (8 - i) i (by omega) (by rw [show i + (8 - i) = 8 by omega]; exact hcn)
      rw [show i + (8 - i) = 8 by omega] at this
      rw [this]
      rfl
    · intro i hi hS hle
      have h1 := cnt_s hS
      have h2 := cnt_mn (S := S) (i := i + 1) (8 - (i + 1))
      rw [show i + 1 + (8 - (i + 1)) = 8 by omega] at h2
      omega
    · intro w hw
      simp only
      rw [z1 w hw]
      refine Bs_cg Bs_zero ?_
      intro s
      constructor
      · intro q; exact absurd q id
      · rintro ⟨i, hi, hS, hle, -⟩
        have h1 := cnt_s hS
        have h2 := cnt_mn (S := S) (i := i + 1) (8 - (i + 1))
        rw [show i + 1 + (8 - (i + 1)) = 8 by omega] at h2
        omega
    · rintro K ⟨le, x, τ⟩ hK ⟨e1, e2, e3, e4, e5, e6⟩
      simp only at e1 e3 e4 e5 e6
      have hx : x = (K : Int) := by omega
      subst hx
      have hnx : wr ((K : Int) + (-1)) = (K : Int) - 1 := by rw [wr_id' (by omega) (by omega)]; omega
      obtain ⟨i0, i1, i2, i3⟩ := cnt_ex 8 hK
      have hle := e4 (i0 + 1) (by omega) (by rw [cnt_s i2, i3])
      rw [show 8 - (i0 + 1) = 7 - i0 by omega] at hle
      have hlb := lf_le (S := S) (W := W) (m := m) (7 - i0)
      obtain ⟨r1, r2⟩ := hR i0 i1 i2
      rw [i3] at r1
      have hdg : le % (W : Int) = (dg S W m i0 : Int) := by
        rw [hle]
        have : dg S W m i0 = lf S W m (7 - i0) % W := rfl
        rw [this]
        rcases hW with rfl | rfl | rfl <;> omega
      have hdl := dg_lt (S := S) (m := m) (i := i0) hW
      have hdv : le / (W : Int) = (lf S W m (8 - i0) : Int) := by
        rw [hle, show 8 - i0 = (7 - i0) + 1 by omega]
        have : lf S W m ((7 - i0) + 1) = if S (7 - (7 - i0)) = true then lf S W m (7 - i0) / W else lf S W m (7 - i0) := rfl
        rw [this, show 7 - (7 - i0) = i0 by omega, if_pos i2]
        rcases hW with rfl | rfl | rfl <;> omega
      simp only [m_X12_worstOf_L31]
      rw [if_neg (by omega), remW (by omega) hWI, bnd_s, hdg, Hp_bind, Hp_wt]
      refine ⟨by omega, ?_⟩
      rw [Int.toNat_natCast, divW (by omega) hWI, bnd_s, hdv, rd_ok (by omega) (by omega), bnd_s, Int.toNat_natCast, up_eq, rd_ok (by omega) (by omega), bnd_s, Int.toNat_natCast, up_cell (by decide), rd_ok (by omega) (by omega), bnd_s, Int.toNat_natCast, up_cell (by decide), e3 231 K rfl, r1, rd_ok (by omega) (by omega), bnd_s, Int.toNat_natCast, up_cell (by decide), e3 230 i0 rfl, r2, Hp_bind, Hp_wt]
      refine ⟨by omega, ?_⟩
      rw [Int.toNat_natCast, Hp_some, Lq_inl, hnx]
      refine ⟨rfl, by omega, Wr_up (Wr_up e3 rfl) rfl, ?_, ?_, ?_⟩
      · intro i hi hcn
        simp only
        have hii : i ≤ i0 := by
          by_cases h : i ≤ i0
          · exact h
          · have h1 := cnt_s i2
            have h2 := cnt_mn (S := S) (i := i0 + 1) (i - (i0 + 1))
            rw [show i0 + 1 + (i - (i0 + 1)) = i by omega] at h2
            omega
        have := lf_const (S := S) (W := W) (m := m) (i0 - i) i (by omega) (by rw [show i + (i0 - i) = i0 by omega, hcn, i3])
        rw [show i + (i0 - i) = i0 by omega] at this
        rw [this]
      · intro i hi hS hle'
        simp only
        rw [up_cell (by decide)]
        by_cases hcK : cnt S i = K
        · have : i = i0 := cnt_inj hS i2 (by omega)
          subst this
          rw [hcK, up_eq]
        · rw [up_slot hcK]
          exact e5 i hi hS (by omega)
      · intro w hw
        simp only
        by_cases hwd : w = dg S W m i0
        · subst hwd
          rw [up_eq]
          refine Bs_cg (Bs_or (e6 _ hw) ⟨(hr i0 i1).1, fun s => Iff.rfl⟩) ?_
          intro s
          constructor
          · rintro (⟨i, q1, q2, q3, q4⟩ | q)
            · exact ⟨i, q1, q2, by omega, q4⟩
            · exact ⟨i0, i1, i2, by omega, rfl, q⟩
          · rintro ⟨i, q1, q2, q3, q4, q5⟩
            by_cases hcK : cnt S i = K
            · have : i = i0 := cnt_inj q2 i2 (by omega)
              subst this
              exact Or.inr q5
            · exact Or.inl ⟨i, q1, q2, by omega, q4, q5⟩
        · rw [up_slot hwd, up_cell (by decide)]
          refine Bs_cg (e6 w hw) ?_
          intro s
          constructor
          · rintro ⟨i, q1, q2, q3, q4⟩; exact ⟨i, q1, q2, by omega, q4⟩
          · rintro ⟨i, q1, q2, q3, q4, q5⟩
            by_cases hcK : cnt S i = K
            · have : i = i0 := cnt_inj q2 i2 (by omega)
              subst this
              exact absurd q4.symm hwd
            · exact ⟨i, q1, q2, by omega, q4, q5⟩
    · rintro ⟨le, x, τ⟩ ⟨e1, e2, e3, e4, e5, e6⟩
      simp only at e1 e3 e4 e5 e6
      simp only [m_X12_worstOf_L31]
      rw [if_pos (by omega), Hp_some, Lq_inr]
      refine ⟨e3, fun i hi hS => e5 i hi hS (by omega), fun w hw => Bs_cg (e6 w hw) ?_⟩
      intro s
      constructor
      · rintro ⟨i, q1, q2, q3, q4⟩; exact ⟨i, q1, q2, q4⟩
      · rintro ⟨i, q1, q2, q4⟩; exact ⟨i, q1, q2, Nat.zero_le _, q4⟩
  obtain ⟨τ2, o2, w2, p2, z2⟩ := hL
  rw [m_X12_worstOf, o1, bnd_s]
  simp only [vl]
  rw [bnd_s, wr_id' (by omega) (by omega), o2, bnd_s, Hp_bind]
  simp only [Hp_some]
  refine Hp_up (fun j (z : Int × Int) => z.2 = (j : Int) ∧ z.1 = ((max (max (if 0 < j then pk S W r m 0 else 0) (if 1 < j then pk S W r m 1 else 0)) (if 2 < j then pk S W r m 2 else 0) : Nat) : Int)) 0 W (by omega) (by omega) ⟨rfl, rfl⟩ ?_ ?_
  · rintro j ⟨y, x⟩ - hj ⟨e1, e2⟩
    simp only at e1 e2
    subst e1
    have hp : popc (τ2 233 j) = pk S W r m j := popc_P (z2 j (by omega))
    simp only [m_X12_worstOf_L92]
    rw [if_neg (by omega), rd_ok (by omega) (by omega), bnd_s, Int.toNat_natCast, bits_sp, bnd_s, hp]
    have hnew : ∀ v : Int, v = (max y.toNat (pk S W r m j) : Nat) → v = ((max (max (if 0 < j + 1 then pk S W r m 0 else 0) (if 1 < j + 1 then pk S W r m 1 else 0)) (if 2 < j + 1 then pk S W r m 2 else 0) : Nat) : Int) := by
      intro v hv
      rw [hv, e2]
      have : j = 0 ∨ j = 1 ∨ j = 2 := by omega
      rcases this with rfl | rfl | rfl <;> simp only [Nat.lt_irrefl, if_false, Nat.zero_lt_succ, if_true, Nat.not_lt_zero, Nat.reduceLT, Nat.reduceAdd, Int.toNat_natCast] <;> omega
    by_cases hc : (pk S W r m j : Int) ≤ y
    · rw [if_pos hc, Hp_some, Lq_inl, nx1 (by omega)]
      exact ⟨rfl, hnew y (by omega)⟩
    · rw [if_neg hc, bnd_s, bits_sp, bnd_s, hp, Hp_some, Lq_inl, nx1 (by omega)]
      exact ⟨rfl, hnew _ (by omega)⟩
  · rintro ⟨y, x⟩ ⟨e1, e2⟩
    simp only at e1 e2
    subst e1; subst e2
    simp only [m_X12_worstOf_L92]
    rw [if_pos (by omega), Hp_some, Lq_inr]
    refine ⟨?_, w2, p2, z2⟩
    unfold wv
    have h1 := pk_hi (S := S) (m := m) (w := 1) (r := r) hW
    have h2 := pk_hi (S := S) (m := m) (w := 2) (r := r) hW
    rcases hW with rfl | rfl | rfl
    · rw [h1 (by omega), h2 (by omega)]; simp
    · rw [h2 (by omega)]; simp
    · simp
theorem all_sp {S : Nat → Bool} {W : Nat} (hW : W = 1 ∨ W = 2 ∨ W = 3) : Hp (lp (fun z => m_X12_fed_L144 ((cnt S 8 : Nat) : Int) (W : Int) z.1 z.2) (1, 0)) (fun x => x = (PP S W 8 : Int)) := by
  have hc8 := cnt_le S 8
  -- W to the power of n
  have hpow : ∀ j, j ≤ 8 → PP S W j = W ^ cnt S j := by
    intro j
    induction j with
    | zero => intro _; rfl
    | succ j ih =>
      intro hj
      have := ih (by omega)
      show (if S j = true then PP S W j * W else PP S W j) = _
      by_cases hS : S j = true
      · rw [if_pos hS, cnt_s hS, Nat.pow_succ, this]
      · rw [if_neg hS, cnt_n hS, this]
  have hb : ∀ n, n ≤ 8 → W ^ n ≤ 6561 := by
    intro n hn
    have h3 : W ^ n ≤ 3 ^ n := Nat.pow_le_pow_left (by omega) n
    have h4 : 3 ^ n ≤ 3 ^ 8 := Nat.pow_le_pow_right (by decide) hn
    omega
  refine Hp_up (fun j (z : Int × Int) => z.2 = (j : Int) ∧ z.1 = ((W ^ j : Nat) : Int)) 0 (cnt S 8) (by omega) (by omega) ⟨rfl, rfl⟩ ?_ ?_
  · rintro j ⟨y, x⟩ - hj ⟨e1, e2⟩
    simp only at e1 e2
    subst e1; subst e2
    have h1 := hb j (by omega)
    have h2 : W ^ (j + 1) = W ^ j * W := Nat.pow_succ _ _
    simp only [m_X12_fed_L144, vl]
    rw [if_neg (by omega), bnd_s, Hp_some, Lq_inl, nx1 (by omega)]
    refine ⟨rfl, ?_⟩
    simp only
    rw [h2]
    generalize W ^ j = N at h1
    rcases hW with rfl | rfl | rfl
    · rw [wr_id' (by omega) (by omega)]; omega
    · rw [wr_id' (by omega) (by omega)]; omega
    · rw [wr_id' (by omega) (by omega)]; omega
  · rintro ⟨y, x⟩ ⟨e1, e2⟩
    simp only at e1 e2
    subst e1; subst e2
    simp only [m_X12_fed_L144]
    rw [if_pos (by omega), Hp_some, Lq_inr, hpow 8 (by omega)]
theorem best_m {S : Nat → Bool} {W : Nat} {r : Nat → Int} {τ0 : St} (hW : W = 1 ∨ W = 2 ∨ W = 3) (hr : Rq r) (hR : RwM S r τ0) :
    Hp (lp (fun z => m_X12_fed_L172 (PP S W 8 : Int) ((cnt S 8 : Nat) : Int) (W : Int) z.1 z.2.1 z.2.2.1 z.2.2.2) (-1, 0, 0, τ0)) (fun q => q.1 = ((Am S W r (PP S W 8)).2 : Int) ∧ Wr ([(232, 233)], []) τ0 q.2) := by
  have hPP := PP8 (S := S) hW
  refine Hp_up (fun j (z : Int × Int × Int × St) => z.2.2.1 = (j : Int) ∧ z.1 = (Am S W r j).1 ∧ z.2.1 = ((Am S W r j).2 : Int) ∧ Wr ([(232, 233)], []) τ0 z.2.2.2) 0 (PP S W 8) (by omega) (by omega) ⟨rfl, rfl, rfl, Wr_rf⟩ ?_ ?_
  · rintro j ⟨be, fi, x, τ⟩ - hj ⟨e1, e2, e3, e4⟩
    simp only at e1 e2 e3 e4
    subst e1
    simp only [m_X12_fed_L172]
    rw [if_neg (by omega), Hp_bind]
    refine Hp_mono (worst_m (m := j) hW hr hj (fun i hi hS => by rw [e4 231 _ rfl, e4 230 _ rfl]; exact hR i hi hS)) ?_
    rintro ⟨wo, τ2⟩ ⟨p1, p2, -, -⟩
    simp only at p1 p2
    subst p1
    have hJ : (be = -1 ∨ (wv S W r j : Int) < be) → Hp (m_X12_fed_J206 (wv S W r j : Int) (j : Int) τ2) (Lq (fun (q : Int × St) => q.1 = ((Am S W r (PP S W 8)).2 : Int) ∧ Wr ([(232, 233)], []) τ0 q.2) (fun (z : Int × Int × Int × St) => z.2.2.1 = ((j + 1 : Nat) : Int) ∧ z.1 = (Am S W r (j + 1)).1 ∧ z.2.1 = ((Am S W r (j + 1)).2 : Int) ∧ Wr ([(232, 233)], []) τ0 z.2.2.2)) := by
      intro hc
      have hA : Am S W r (j + 1) = ((wv S W r j : Int), j) := by
        rw [Am, if_pos (by rw [← e2]; exact hc)]
      rw [m_X12_fed_J206, Hp_some, Lq_inl, nx1 (by omega), hA]
      exact ⟨rfl, rfl, rfl, Wr_tr e4 p2⟩
    simp only
    by_cases h1 : be = -1
    · rw [if_pos h1]; exact hJ (Or.inl h1)
    · rw [if_neg h1]
      by_cases h2 : (wv S W r j : Int) < be
      · rw [if_pos h2]; exact hJ (Or.inr h2)
      · have hA : Am S W r (j + 1) = Am S W r j := by
          rw [Am, if_neg (by rw [← e2]; omega)]
        rw [if_neg h2, Hp_some, Lq_inl, nx1 (by omega), hA]
        exact ⟨rfl, e2, e3, Wr_tr e4 p2⟩
  · rintro ⟨be, fi, x, τ⟩ ⟨e1, e2, e3, e4⟩
    simp only at e1 e2 e3 e4
    subst e1
    simp only [m_X12_fed_L172]
    rw [if_pos (by omega), Hp_some, Lq_inr]
    exact ⟨e3, e4⟩
