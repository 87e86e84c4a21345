/-! fed: the numbering of the ways to give words -/
theorem divW {x W : Int} (hx : 0 ≤ x ∧ x ≤ 100000) (hW : W = 1 ∨ W = 2 ∨ W = 3) : divI x W = some (x / W) := by
  rw [divI, if_neg (by omega), Int32.toInt_div, ti (x := x) ⟨by omega, by omega⟩, ti (x := W) ⟨by omega, by omega⟩, Int.tdiv_eq_ediv_of_nonneg hx.1]
  congr 1
  rcases hW with rfl | rfl | rfl <;> exact Int.bmod_eq_of_le (by omega) (by omega)
theorem remW {x W : Int} (hx : 0 ≤ x ∧ x ≤ 100000) (hW : W = 1 ∨ W = 2 ∨ W = 3) : remI x W = some (x % W) := by
  have hd : (Int32.ofInt x / Int32.ofInt W).toInt = x / W := by
    have := divW hx hW
    rw [divI, if_neg (by omega)] at this
    injection this
  rw [remI, if_neg (by omega), Int32.toInt_sub, Int32.toInt_mul, hd, ti (x := x) ⟨by omega, by omega⟩, ti (x := W) ⟨by omega, by omega⟩]
  congr 1
  rcases hW with rfl | rfl | rfl
  · rw [Int.bmod_eq_of_le (n := x / 1 * 1) (by omega) (by omega), Int.bmod_eq_of_le (by omega) (by omega)]; omega
  · rw [Int.bmod_eq_of_le (n := x / 2 * 2) (by omega) (by omega), Int.bmod_eq_of_le (by omega) (by omega)]; omega
  · rw [Int.bmod_eq_of_le (n := x / 3 * 3) (by omega) (by omega), Int.bmod_eq_of_le (by omega) (by omega)]; omega
/-- what is left of way m when the last k of the eight are taken off -/
def lf (S : Nat → Bool) (W m : Nat) : Nat → Nat
  | 0 => m
  | k + 1 => if S (7 - k) = true then lf S W m k / W else lf S W m k
/-- the word of agent i in way m -/
def dg (S : Nat → Bool) (W m i : Nat) : Nat := lf S W m (7 - i) % W
def dgI (S : Nat → Bool) (W m i : Nat) : Int := if S i = true then (dg S W m i : Int) else -1
/-- how many ways there are -/
def PP (S : Nat → Bool) (W : Nat) : Nat → Nat
  | 0 => 1
  | j + 1 => if S j = true then PP S W j * W else PP S W j
theorem PP_le {S : Nat → Bool} {W : Nat} (hW : W = 1 ∨ W = 2 ∨ W = 3) : ∀ j, 1 ≤ PP S W j ∧ PP S W j ≤ 3 ^ j := by
  intro j
  induction j with
  | zero => exact ⟨Nat.le_refl _, Nat.le_refl _⟩
  | succ j ih =>
    rw [Nat.pow_succ]
    unfold PP
    generalize 3 ^ j = N at ih ⊢
    split
    · rcases hW with rfl | rfl | rfl <;> omega
    · omega
theorem PP8 {S : Nat → Bool} {W : Nat} (hW : W = 1 ∨ W = 2 ∨ W = 3) : 1 ≤ PP S W 8 ∧ PP S W 8 ≤ 6561 := PP_le hW 8
theorem lf_lt {S : Nat → Bool} {W m : Nat} (hW : W = 1 ∨ W = 2 ∨ W = 3) : ∀ j, j ≤ 8 → (lf S W m (8 - j) < PP S W j ↔ lf S W m 8 < 1) := by
  intro j
  induction j with
  | zero => intro _; exact Iff.rfl
  | succ j ih =>
    intro hj
    rw [← ih (by omega), show 8 - j = (8 - (j + 1)) + 1 by omega]
    generalize hk : 8 - (j + 1) = k
    have e : 7 - k = j := by omega
    show lf S W m k < PP S W (j + 1) ↔ lf S W m (k + 1) < PP S W j
    rw [show PP S W (j + 1) = if S j = true then PP S W j * W else PP S W j from rfl]
    rw [show lf S W m (k + 1) = if S (7 - k) = true then lf S W m k / W else lf S W m k from rfl, e]
    by_cases hS : S j = true
    · rw [if_pos hS, if_pos hS]
      rcases hW with rfl | rfl | rfl <;> omega
    · rw [if_neg hS, if_neg hS]
theorem lf_all {S : Nat → Bool} {W m : Nat} (hW : W = 1 ∨ W = 2 ∨ W = 3) : m < PP S W 8 ↔ lf S W m 8 < 1 := lf_lt (m := m) hW 8 (Nat.le_refl _)
theorem dg_lt {S : Nat → Bool} {W m i : Nat} (hW : W = 1 ∨ W = 2 ∨ W = 3) : dg S W m i < W := by
  unfold dg
  rcases hW with rfl | rfl | rfl <;> omega
theorem lf_zero {S : Nat → Bool} {W : Nat} : ∀ k, lf S W 0 k = 0 := by
  intro k
  induction k with
  | zero => rfl
  | succ k ih =>
    unfold lf
    rw [ih]
    split
    · exact Nat.zero_div _
    · rfl
/-- who knows word w in way m -/
def Kw (S : Nat → Bool) (W : Nat) (r : Nat → Int) (m w s : Nat) : Prop := ∃ i, i < 8 ∧ S i = true ∧ dg S W m i = w ∧ tb (r i) s = true
noncomputable def pk (S : Nat → Bool) (W : Nat) (r : Nat → Int) (m w : Nat) : Nat := pcP (Kw S W r m w)
noncomputable def wv (S : Nat → Bool) (W : Nat) (r : Nat → Int) (m : Nat) : Nat := max (max (pk S W r m 0) (pk S W r m 1)) (pk S W r m 2)
/-- the first of the best of the first j ways -/
noncomputable def Am (S : Nat → Bool) (W : Nat) (r : Nat → Int) : Nat → Int × Nat
  | 0 => (-1, 0)
  | j + 1 => if (Am S W r j).1 = -1 ∨ (wv S W r j : Int) < (Am S W r j).1 then ((wv S W r j : Int), j) else Am S W r j
theorem Am_inv {S : Nat → Bool} {W : Nat} {r : Nat → Int} : ∀ j, 1 ≤ j → (Am S W r j).1 = (wv S W r (Am S W r j).2 : Int) ∧ (Am S W r j).2 < j := by
  intro j
  induction j with
  | zero => intro h; omega
  | succ j ih =>
    intro _
    rw [Am]
    split
    · exact ⟨rfl, by simp only; omega⟩
    next q =>
      cases j with
      | zero => exact absurd (Or.inl rfl) q
      | succ j =>
        have := ih (by omega)
        exact ⟨this.1, by omega⟩
theorem pcP_0 {P : Nat → Prop} (h : ∀ s, ¬ P s) : pcP P = 0 := by
  have : pcP P = popc 0 := (popc_P (Bs_cg Bs_zero (fun s => ⟨fun q => absurd q id, fun q => absurd q (h s)⟩))).symm
  rw [this]
  decide
/-- the class's arrays: the ways' words, who reaches whom -/
def Tr (S : Nat → Bool) (W m : Nat) (τ : St) : Prop := ∀ i, i < 8 → τ 168 i = dgI S W m i
theorem nextTry_sp {S : Nat → Bool} {W m : Nat} {τ0 : St} (hW : W = 1 ∨ W = 2 ∨ W = 3) (hm : m < PP S W 8) (h : Tr S W m τ0) :
    Hp (m_X2_nextTry (W : Int) τ0) (fun q => Wr ([(168, 168)], []) τ0 q.2 ∧ ((q.1 = 1 ∧ m + 1 < PP S W 8 ∧ Tr S W (m + 1) q.2) ∨ (q.1 = 0 ∧ m + 1 = PP S W 8))) := by
  have hm8 := (lf_all hW).mp hm
  rw [m_X2_nextTry, Hp_bind]
  refine Hp_dn (fun j (z : Int × St) => z.1 = (j : Int) - 1 ∧ j ≤ 8 ∧ Wr ([(168, 168)], []) τ0 z.2 ∧ lf S W (m + 1) (8 - j) = lf S W m (8 - j) + 1 ∧ (∀ i, i < 8 → j ≤ i → z.2 168 i = dgI S W (m + 1) i) ∧ ∀ i, i < j → z.2 168 i = dgI S W m i) 8 (by omega) ⟨rfl, Nat.le_refl _, Wr_rf, rfl, fun i h1 h2 => by omega, h⟩ ?_ ?_
  · rintro i ⟨x, τ⟩ hi ⟨e1, e2, e3, e4, e5, e6⟩
    simp only at e1 e3 e4 e5 e6
    have hx : x = (i : Int) := by omega
    subst hx
    have hnx : wr ((i : Int) + (-1)) = (i : Int) - 1 := by rw [wr_id' (by omega) (by omega)]; omega
    have hv := e6 i (by omega)
    have hk : 8 - i = (7 - i) + 1 := by omega
    have ek : 7 - (7 - i) = i := by omega
    rw [show 8 - (i + 1) = 7 - i by omega] at e4
    simp only [m_X2_nextTry_L3]
    rw [if_neg (by omega), rd_ok (by omega) (by omega), bnd_s, Int.toNat_natCast, hv]
    by_cases hS : S i = true
    · have hdg : dgI S W m i = (dg S W m i : Int) := by unfold dgI; rw [if_pos hS]
      have hlt := dg_lt (S := S) (m := m) (i := i) hW
      rw [hdg, if_neg (by omega), bnd_s, Hp_bind, Hp_wt]
      refine ⟨by omega, ?_⟩
      rw [rd_ok (by omega) (by omega), bnd_s, Int.toNat_natCast, up_eq, wr_id' (x := (dg S W m i : Int) + 1) (by omega) (by omega)]
      have hl1 : ∀ q, lf S W q (8 - i) = lf S W q (7 - i) / W := by
        intro q
        rw [hk]
        show (if S (7 - (7 - i)) = true then lf S W q (7 - i) / W else lf S W q (7 - i)) = _
        rw [ek, if_pos hS]
      have hdm : dg S W m i = lf S W m (7 - i) % W := rfl
      have hdm1 : dg S W (m + 1) i = (lf S W m (7 - i) + 1) % W := by unfold dg; rw [e4]
      by_cases hc : (W : Int) ≤ (dg S W m i : Int) + 1
      · rw [if_pos hc, Hp_bind, Hp_wt]
        refine ⟨by omega, ?_⟩
        rw [Int.toNat_natCast, Hp_some, Lq_inl, hnx]
        have hcarry : lf S W (m + 1) (8 - i) = lf S W m (8 - i) + 1 ∧ dg S W (m + 1) i = 0 := by
          rw [hl1, hl1, e4, hdm1]
          rcases hW with rfl | rfl | rfl <;> omega
        refine ⟨rfl, by omega, Wr_up (Wr_up e3 rfl) rfl, hcarry.1, ?_, ?_⟩
        · intro i' h1 h2
          simp only
          by_cases hii : i' = i
          · subst hii
            rw [up_eq]
            unfold dgI
            rw [if_pos hS, hcarry.2]; rfl
          · rw [up_slot hii, up_slot hii]; exact e5 i' h1 (by omega)
        · intro i' h1
          simp only
          rw [up_slot (by omega), up_slot (by omega)]
          exact e6 i' (by omega)
      · rw [if_neg hc, Hp_some, Lq_inr]
        simp only [Hp_some]
        have hsame : lf S W (m + 1) (8 - i) = lf S W m (8 - i) ∧ dg S W (m + 1) i = dg S W m i + 1 := by
          rw [hl1, hl1, e4, hdm1]
          rcases hW with rfl | rfl | rfl <;> omega
        have hrest : ∀ d, 8 - i ≤ d → d ≤ 8 → lf S W (m + 1) d = lf S W m d := by
          intro d
          induction d with
          | zero => intro h1 _; omega
          | succ d ih =>
            intro h1 h2
            by_cases hd : 8 - i = d + 1
            · rw [← hd]; exact hsame.1
            · have := ih (by omega) (by omega)
              show (if S (7 - d) = true then lf S W (m + 1) d / W else lf S W (m + 1) d) = (if S (7 - d) = true then lf S W m d / W else lf S W m d)
              rw [this]
        refine ⟨Wr_up e3 rfl, Or.inl ⟨by trivial, ?_, ?_⟩⟩
        · rw [lf_all hW, hrest 8 (by omega) (by omega)]; exact hm8
        · intro i' h1
          by_cases hii : i' = i
          · subst hii
            rw [up_eq]
            unfold dgI
            rw [if_pos hS, hsame.2]; omega
          · rw [up_slot hii]
            by_cases hgt : i < i'
            · exact e5 i' h1 (by omega)
            · rw [e6 i' (by omega)]
              unfold dgI dg
              rw [hrest (7 - i') (by omega) (by omega)]
    · have hdg : dgI S W m i = -1 := by unfold dgI; rw [if_neg hS]
      rw [hdg, if_pos rfl, Hp_some, Lq_inl, hnx]
      have hl1 : ∀ q, lf S W q (8 - i) = lf S W q (7 - i) := by
        intro q
        rw [hk]
        show (if S (7 - (7 - i)) = true then lf S W q (7 - i) / W else lf S W q (7 - i)) = _
        rw [ek, if_neg hS]
      refine ⟨rfl, by omega, e3, by rw [hl1, hl1]; exact e4, ?_, fun i' h1 => e6 i' (by omega)⟩
      intro i' h1 h2
      by_cases hii : i' = i
      · subst hii
        simp only
        rw [hv, hdg]
        unfold dgI
        rw [if_neg hS]
      · exact e5 i' h1 (by omega)
  · rintro ⟨x, τ⟩ ⟨e1, e2, e3, e4, e5, e6⟩
    simp only at e1 e3 e4 e5 e6
    simp only [m_X2_nextTry_L3]
    rw [if_pos (by omega), Hp_some, Lq_inr]
    simp only [Hp_some]
    refine ⟨e3, Or.inr ⟨by trivial, ?_⟩⟩
    have : ¬ m + 1 < PP S W 8 := by
      rw [lf_all hW]
      rw [show 8 - 0 = 8 from rfl] at e4
      omega
    omega
theorem q_k (j : Int) (τ : St) : m_X2_worstDoubt_L2 j τ = if (3 : Int) ≤ j then some (.inr τ) else (wt τ 169 3 j 0).bind fun τ' => some (.inl (wr (j + 1), τ')) := by rw [m_X2_worstDoubt_L2]
/-- the reaches are bits of the eight -/
def Rq (r : Nat → Int) : Prop := ∀ i, i < 8 → InI (r i) ∧ ∀ s, tb (r i) s = true → s < 8
theorem kw_8 {S : Nat → Bool} {W : Nat} {r : Nat → Int} (hr : Rq r) {m w s : Nat} (h : Kw S W r m w s) : s < 8 := by
  obtain ⟨i, h1, h2, h3, h4⟩ := h
  exact (hr i h1).2 s h4
theorem worst_c {S : Nat → Bool} {W m : Nat} {r : Nat → Int} {τ0 : St} (hW : W = 1 ∨ W = 2 ∨ W = 3) (hr : Rq r) (h : Tr S W m τ0) (h165 : ∀ i, i < 8 → S i = true → τ0 165 i = r i) :
    Hp (m_X2_worstDoubt τ0) (fun q => q.1 = (wv S W r m : Int) ∧ Wr ([(169, 169)], []) τ0 q.2 ∧ ∀ w, w < 3 → Bs (q.2 169 w) (Kw S W r m w)) := by
  obtain ⟨τ1, o1, w1, z1⟩ := fill_sp (f := fun a => m_X2_worstDoubt_L2 a.1 a.2) (σ := τ0) (c := 169) (N := 3) (NI := 3) (v := 0) (by omega) (by omega) q_k
  have hL : Hp (lp (fun z => m_X2_worstDoubt_L22 z.1 z.2) (0, τ1)) (fun τ => Wr ([(169, 169)], []) τ0 τ ∧ ∀ w, w < 3 → Bs (τ 169 w) (Kw S W r m w)) := by
    refine Hp_up (fun j (z : Int × St) => z.1 = (j : Int) ∧ Wr ([(169, 169)], []) τ0 z.2 ∧ ∀ w, w < 3 → Bs (z.2 169 w) (fun s => ∃ i, i < j ∧ S i = true ∧ dg S W m i = w ∧ tb (r i) s = true)) 0 8 (by omega) (by omega) ⟨rfl, w1, fun w hw => by simp only; rw [z1 w hw]; exact Bs_cg Bs_zero (fun s => ⟨fun q => absurd q id, fun ⟨i, h, _⟩ => by omega⟩)⟩ ?_ ?_
    · rintro i ⟨x, τ⟩ - hi ⟨e1, e2, e3⟩
      simp only at e1 e2 e3
      subst e1
      have hv : τ 168 i = dgI S W m i := (e2 168 i rfl).trans (h i hi)
      simp only [m_X2_worstDoubt_L22]
      rw [if_neg (by omega), rd_ok (by omega) (by omega), bnd_s, Int.toNat_natCast, hv]
      by_cases hS : S i = true
      · have hdg : dgI S W m i = (dg S W m i : Int) := by unfold dgI; rw [if_pos hS]
        have hlt := dg_lt (S := S) (m := m) (i := i) hW
        rw [hdg, if_neg (by omega), if_neg (by omega), rd_ok (by omega) (by omega), bnd_s, rd_ok (by omega) (by omega), bnd_s, Hp_bind, Hp_wt]
        refine ⟨by omega, ?_⟩
        simp only [Int.toNat_natCast]
        rw [Hp_some, Lq_inl, nx1 (by omega)]
        refine ⟨rfl, Wr_up e2 rfl, ?_⟩
        intro w hw
        simp only
        have f165 : τ 165 i = r i := (e2 165 i rfl).trans (h165 i hi hS)
        by_cases hwd : w = dg S W m i
        · subst hwd
          rw [up_eq, f165]
          refine Bs_cg (Bs_or (e3 _ hw) ⟨(hr i hi).1, fun s => Iff.rfl⟩) ?_
          intro s
          constructor
          · rintro (⟨i', q1, q2⟩ | q)
            · exact ⟨i', by omega, q2⟩
            · exact ⟨i, by omega, hS, rfl, q⟩
          · rintro ⟨i', q1, q2, q3, q4⟩
            by_cases hii : i' = i
            · subst hii; exact Or.inr q4
            · exact Or.inl ⟨i', by omega, q2, q3, q4⟩
        · rw [up_slot hwd]
          refine Bs_cg (e3 w hw) ?_
          intro s
          constructor
          · rintro ⟨i', q1, q2⟩; exact ⟨i', by omega, q2⟩
          · rintro ⟨i', q1, q2, q3, q4⟩
            by_cases hii : i' = i
            · subst hii; exact absurd q3.symm hwd
            · exact ⟨i', by omega, q2, q3, q4⟩
      · have hdg : dgI S W m i = -1 := by unfold dgI; rw [if_neg hS]
        rw [hdg, if_pos (by decide), Hp_some, Lq_inl, nx1 (by omega)]
        refine ⟨rfl, e2, ?_⟩
        intro w hw
        refine Bs_cg (e3 w hw) ?_
        intro s
        constructor
        · rintro ⟨i', q1, q2⟩; exact ⟨i', by omega, q2⟩
        · rintro ⟨i', q1, q2, q3, q4⟩
          by_cases hii : i' = i
          · subst hii; exact absurd q2 hS
          · exact ⟨i', by omega, q2, q3, q4⟩
    · rintro ⟨x, τ⟩ ⟨e1, e2, e3⟩
      simp only at e1 e2 e3
      subst e1
      simp only [m_X2_worstDoubt_L22]
      rw [if_pos (by omega), Hp_some, Lq_inr]
      exact ⟨e2, e3⟩
  obtain ⟨τ2, o2, w2, z2⟩ := hL
  rw [m_X2_worstDoubt, o1, bnd_s, o2, bnd_s, Hp_bind]
  simp only [Hp_some]
  refine Hp_up (fun j (z : Int × Int) => z.2 = (j : Int) ∧ z.1 = ((max (max (if 0 < j then pk S W r m 0 else 0) (if 1 < j then pk S W r m 1 else 0)) (if 2 < j then pk S W r m 2 else 0) : Nat) : Int)) 0 3 (by omega) (by omega) ⟨rfl, rfl⟩ ?_ ?_
  · rintro j ⟨y, x⟩ - hj ⟨e1, e2⟩
    simp only at e1 e2
    subst e1; subst e2
    simp only [m_X2_worstDoubt_L69, vl]
    have hb := z2 j hj
    have hp : popc (τ2 169 j) = pk S W r m j := popc_P hb
    rw [if_neg (by omega), rd_ok (by omega) (by omega), bnd_s, Int.toNat_natCast, bitC_sp hb (fun s hs => kw_8 hr hs), bnd_s, bnd_s, Hp_some, Lq_inl, nx1 (by omega), hp]
    refine ⟨rfl, ?_⟩
    have : j = 0 ∨ j = 1 ∨ j = 2 := by omega
    unfold maxI
    rcases this with rfl | rfl | rfl <;> simp only [Nat.lt_irrefl, if_false, Nat.zero_lt_succ, if_true, Nat.not_lt_zero, Nat.reduceLT, Nat.reduceAdd] <;> split <;> omega
  · rintro ⟨y, x⟩ ⟨e1, e2⟩
    simp only at e1 e2
    subst e1; subst e2
    simp only [m_X2_worstDoubt_L69]
    rw [if_pos (by omega), Hp_some, Lq_inr]
    exact ⟨rfl, w2, z2⟩
theorem keep_c {S : Nat → Bool} {W m : Nat} {r : Nat → Int} {τ0 : St} (hr : Rq r) (h : Tr S W m τ0) (hk : ∀ w, w < 3 → Bs (τ0 169 w) (Kw S W r m w)) :
    Hp (m_X2_keep τ0) (fun τ => Wr ([(166, 167)], []) τ0 τ ∧ (∀ i, i < 8 → τ 166 i = dgI S W m i) ∧ ∀ w, w < 3 → τ 167 w = (pk S W r m w : Int)) := by
  have hL : Hp (lp (fun z => m_X2_keep_L2 z.1 z.2) (0, τ0)) (fun τ => Wr ([(166, 166)], []) τ0 τ ∧ ∀ i, i < 8 → τ 166 i = dgI S W m i) := by
    refine Hp_up (fun j (z : Int × St) => z.1 = (j : Int) ∧ Wr ([(166, 166)], []) τ0 z.2 ∧ ∀ i, i < j → z.2 166 i = dgI S W m i) 0 8 (by omega) (by omega) ⟨rfl, Wr_rf, fun i h => by omega⟩ ?_ ?_
    · rintro j ⟨x, τ⟩ - hj ⟨e1, e2, e3⟩
      simp only at e1 e2 e3
      subst e1
      simp only [m_X2_keep_L2]
      rw [if_neg (by omega), rd_ok (by omega) (by omega), bnd_s, Hp_bind, Hp_wt]
      refine ⟨by omega, ?_⟩
      rw [Int.toNat_natCast, Hp_some, Lq_inl, nx1 (by omega)]
      refine ⟨rfl, Wr_up e2 rfl, ?_⟩
      intro i hi
      simp only
      by_cases hij : i = j
      · subst hij; rw [up_eq, e2 168 i rfl]; exact h i hj
      · rw [up_slot hij]; exact e3 i (by omega)
    · rintro ⟨x, τ⟩ ⟨e1, e2, e3⟩
      simp only at e1 e2 e3
      subst e1
      simp only [m_X2_keep_L2]
      rw [if_pos (by omega), Hp_some, Lq_inr]
      exact ⟨e2, e3⟩
  obtain ⟨τ1, o1, w1, z1⟩ := hL
  rw [m_X2_keep, o1, bnd_s, Hp_bind]
  simp only [Hp_some]
  refine Hp_up (fun j (z : Int × St) => z.1 = (j : Int) ∧ Wr ([(167, 167)], []) τ1 z.2 ∧ ∀ w, w < j → z.2 167 w = (pk S W r m w : Int)) 0 3 (by omega) (by omega) ⟨rfl, Wr_rf, fun i h => by omega⟩ ?_ ?_
  · rintro j ⟨x, τ⟩ - hj ⟨e1, e2, e3⟩
    simp only at e1 e2 e3
    subst e1
    have hb : Bs (τ 169 j) (Kw S W r m j) := by rw [e2 169 j rfl, w1 169 j rfl]; exact hk j hj
    have hp : popc (τ 169 j) = pk S W r m j := popc_P hb
    simp only [m_X2_keep_L28]
    rw [if_neg (by omega), rd_ok (by omega) (by omega), bnd_s, Int.toNat_natCast, bitC_sp hb (fun s hs => kw_8 hr hs), bnd_s, Hp_bind, Hp_wt]
    refine ⟨by omega, ?_⟩
    rw [Int.toNat_natCast, Hp_some, Lq_inl, nx1 (by omega), hp]
    refine ⟨rfl, Wr_up e2 rfl, ?_⟩
    intro w hw
    simp only
    by_cases hwj : w = j
    · subst hwj; rw [up_eq]
    · rw [up_slot hwj]; exact e3 w (by omega)
  · rintro ⟨x, τ⟩ ⟨e1, e2, e3⟩
    simp only at e1 e2 e3
    subst e1
    simp only [m_X2_keep_L28]
    rw [if_pos (by omega), Hp_some, Lq_inr]
    exact ⟨Wr_tr (Wr_sb w1 rfl) (Wr_sb e2 rfl), fun i hi => by rw [e2 166 i rfl]; exact z1 i hi, e3⟩
theorem choose_sp {S : Nat → Bool} {W : Nat} {r : Nat → Int} {sus : Int} {τ0 : St} (hW : W = 1 ∨ W = 2 ∨ W = 3) (hr : Rq r) (hS : ∀ i, i < 8 → (S i = true ↔ tb sus i = true)) (h165 : ∀ i, i < 8 → S i = true → τ0 165 i = r i) :
    Hp (m_X2_choose sus (W : Int) τ0) (fun q => q.1 = (Am S W r (PP S W 8)).1 ∧ Wr ([(166, 169)], [(164, 3)]) τ0 q.2 ∧ q.2 164 3 = (W : Int) ∧ (∀ i, i < 8 → q.2 166 i = dgI S W (Am S W r (PP S W 8)).2 i) ∧ ∀ w, w < 3 → q.2 167 w = (pk S W r (Am S W r (PP S W 8)).2 w : Int)) := by
  have hPP := PP8 (S := S) hW
  have hL : Hp (lp (fun z => m_X2_choose_L7 sus z.1 z.2) (0, up τ0 164 3 (W : Int))) (fun τ => Wr ([(168, 168)], [(164, 3)]) τ0 τ ∧ τ 164 3 = (W : Int) ∧ Tr S W 0 τ) := by
    refine Hp_up (fun j (z : Int × St) => z.1 = (j : Int) ∧ Wr ([(168, 168)], [(164, 3)]) τ0 z.2 ∧ z.2 164 3 = (W : Int) ∧ ∀ i, i < j → z.2 168 i = dgI S W 0 i) 0 8 (by omega) (by omega) ⟨rfl, Wr_up Wr_rf rfl, by simp only [up_eq], fun i h => by omega⟩ ?_ ?_
    · rintro j ⟨x, τ⟩ - hj ⟨e1, e2, e3, e4⟩
      simp only at e1 e2 e3 e4
      subst e1
      have put : ∀ v : Int, v = dgI S W 0 j → Hp ((wt τ 168 8 (j : Int) v).bind fun σ7 => some (.inl (wr ((j : Int) + 1), σ7))) (Lq (fun τ => Wr ([(168, 168)], [(164, 3)]) τ0 τ ∧ τ 164 3 = (W : Int) ∧ Tr S W 0 τ) (fun (z : Int × St) => z.1 = ((j + 1 : Nat) : Int) ∧ Wr ([(168, 168)], [(164, 3)]) τ0 z.2 ∧ z.2 164 3 = (W : Int) ∧ ∀ i, i < j + 1 → z.2 168 i = dgI S W 0 i)) := by
        intro v hv
        rw [Hp_bind, Hp_wt]
        refine ⟨by omega, ?_⟩
        rw [Int.toNat_natCast, Hp_some, Lq_inl, nx1 (by omega)]
        refine ⟨rfl, Wr_up e2 rfl, by simp only; rw [up_cell (by decide)]; exact e3, ?_⟩
        intro i hi
        simp only
        by_cases hij : i = j
        · subst hij; rw [up_eq]; exact hv
        · rw [up_slot hij]; exact e4 i (by omega)
      simp only [m_X2_choose_L7]
      rw [if_neg (by omega), bit_at sus (by omega)]
      by_cases hb : tb sus j = true
      · rw [if_pos hb, if_neg (by decide)]
        refine put 0 ?_
        unfold dgI dg
        rw [if_pos ((hS j hj).mpr hb), lf_zero, Nat.zero_mod]; rfl
      · rw [if_neg hb, if_pos rfl]
        refine put (-1) ?_
        unfold dgI
        rw [if_neg (fun q => hb ((hS j hj).mp q))]
    · rintro ⟨x, τ⟩ ⟨e1, e2, e3, e4⟩
      simp only at e1 e2 e3 e4
      subst e1
      simp only [m_X2_choose_L7]
      rw [if_pos (by omega), Hp_some, Lq_inr]
      exact ⟨e2, e3, e4⟩
  obtain ⟨τ1, o1, w1, s1, z1⟩ := hL
  rw [m_X2_choose, pt_s, bnd_s, o1, bnd_s, Hp_bind]
  simp only [Hp_some]
  refine Hp_up (fun j (z : Int × Int × Int × St) => z.2.2.1 = (j : Int) ∧ z.1 = (Am S W r j).1 ∧ Wr ([(166, 169)], [(164, 3)]) τ0 z.2.2.2 ∧ z.2.2.2 164 3 = (W : Int) ∧ (1 ≤ j → (∀ i, i < 8 → z.2.2.2 166 i = dgI S W (Am S W r j).2 i) ∧ ∀ w, w < 3 → z.2.2.2 167 w = (pk S W r (Am S W r j).2 w : Int)) ∧ ((z.2.1 = 1 ∧ j < PP S W 8 ∧ Tr S W j z.2.2.2) ∨ (z.2.1 = 0 ∧ j = PP S W 8))) 0 (PP S W 8) (by omega) (by omega) ⟨rfl, rfl, Wr_sb w1 rfl, s1, fun h => by omega, Or.inl ⟨rfl, by omega, z1⟩⟩ ?_ ?_
  · rintro j ⟨le, mo, x, τ⟩ - hj ⟨e1, e2, e3, e4, e5, e6⟩
    simp only at e1 e2 e3 e4 e5 e6
    subst e1
    obtain ⟨q1, q2, q3⟩ : mo = 1 ∧ j < PP S W 8 ∧ Tr S W j τ := by
      rcases e6 with q | ⟨-, q⟩
      · exact q
      · omega
    simp only [m_X2_choose_L46]
    rw [if_neg (by omega), if_neg (by omega), Hp_bind]
    refine Hp_mono (worst_c hW hr q3 (fun i hi hSi => by rw [e3 165 i rfl]; exact h165 i hi hSi)) ?_
    rintro ⟨wo, τ2⟩ ⟨p1, p2, p3⟩
    simp only at p1 p2 p3
    subst p1
    have t2 : Tr S W j τ2 := fun i hi => by rw [p2 168 i rfl]; exact q3 i hi
    have w2 : Wr ([(166, 169)], [(164, 3)]) τ0 τ2 := Wr_tr e3 (Wr_sb p2 rfl)
    have hJ : (le = -1 ∨ (wv S W r j : Int) < le) → Hp (m_X2_choose_J76 τ2 (W : Int) (wv S W r j : Int) (j : Int)) (Lq (fun (q : Int × St) => q.1 = (Am S W r (PP S W 8)).1 ∧ Wr ([(166, 169)], [(164, 3)]) τ0 q.2 ∧ q.2 164 3 = (W : Int) ∧ (∀ i, i < 8 → q.2 166 i = dgI S W (Am S W r (PP S W 8)).2 i) ∧ ∀ w, w < 3 → q.2 167 w = (pk S W r (Am S W r (PP S W 8)).2 w : Int)) (fun (z : Int × Int × Int × St) => z.2.2.1 = ((j + 1 : Nat) : Int) ∧ z.1 = (Am S W r (j + 1)).1 ∧ Wr ([(166, 169)], [(164, 3)]) τ0 z.2.2.2 ∧ z.2.2.2 164 3 = (W : Int) ∧ (1 ≤ j + 1 → (∀ i, i < 8 → z.2.2.2 166 i = dgI S W (Am S W r (j + 1)).2 i) ∧ ∀ w, w < 3 → z.2.2.2 167 w = (pk S W r (Am S W r (j + 1)).2 w : Int)) ∧ ((z.2.1 = 1 ∧ j + 1 < PP S W 8 ∧ Tr S W (j + 1) z.2.2.2) ∨ (z.2.1 = 0 ∧ j + 1 = PP S W 8)))) := by
      intro hc
      have hA : Am S W r (j + 1) = ((wv S W r j : Int), j) := by
        rw [Am, if_pos (by rw [← e2]; exact hc)]
      rw [m_X2_choose_J76, Hp_bind]
      refine Hp_mono (keep_c hr t2 p3) ?_
      rintro τ3 ⟨k1, k2, k3⟩
      have t3 : Tr S W j τ3 := fun i hi => by rw [k1 168 i rfl]; exact t2 i hi
      rw [Hp_bind]
      refine Hp_mono (nextTry_sp hW q2 t3) ?_
      rintro ⟨mo', τ4⟩ ⟨n1, n2⟩
      simp only at n1 n2
      simp only [Hp_some]
      rw [Lq_inl, nx1 (by omega), hA]
      refine ⟨rfl, rfl, Wr_tr w2 (Wr_tr (Wr_sb k1 rfl) (Wr_sb n1 rfl)), ?_, fun _ => ⟨fun i hi => ?_, fun w hw => ?_⟩, n2⟩
      · simp only
        rw [n1 164 3 rfl, k1 164 3 rfl, p2 164 3 rfl]; exact e4
      · simp only
        rw [n1 166 i rfl]; exact k2 i hi
      · simp only
        rw [n1 167 w rfl]; exact k3 w hw
    simp only
    by_cases h1 : le = -1
    · rw [if_pos h1]; exact hJ (Or.inl h1)
    · rw [if_neg h1]
      by_cases h2 : le ≤ (wv S W r j : Int)
      · have hA : Am S W r (j + 1) = Am S W r j := by
          rw [Am, if_neg (by rw [← e2]; omega)]
        have hj1 : 1 ≤ j := by
          cases j with
          | zero => exact absurd e2 h1
          | succ j => omega
        rw [if_pos h2, Hp_bind]
        refine Hp_mono (nextTry_sp hW q2 t2) ?_
        rintro ⟨mo', τ4⟩ ⟨n1, n2⟩
        simp only at n1 n2
        simp only [Hp_some]
        rw [Lq_inl, nx1 (by omega), hA]
        obtain ⟨r1, r2⟩ := e5 hj1
        refine ⟨rfl, e2, Wr_tr w2 (Wr_sb n1 rfl), ?_, fun _ => ⟨fun i hi => ?_, fun w hw => ?_⟩, n2⟩
        · simp only
          rw [n1 164 3 rfl, p2 164 3 rfl]; exact e4
        · simp only
          rw [n1 166 i rfl, p2 166 i rfl]; exact r1 i hi
        · simp only
          rw [n1 167 w rfl, p2 167 w rfl]; exact r2 w hw
      · rw [if_neg h2]; exact hJ (Or.inr (by omega))
  · rintro ⟨le, mo, x, τ⟩ ⟨e1, e2, e3, e4, e5, e6⟩
    simp only at e1 e2 e3 e4 e5 e6
    subst e1
    rcases e6 with ⟨-, q2, -⟩ | ⟨q1, -⟩
    · omega
    simp only [m_X2_choose_L46]
    rw [if_neg (by omega), if_pos q1, Hp_some, Lq_inr]
    simp only [Hp_some]
    obtain ⟨r1, r2⟩ := e5 (by omega)
    exact ⟨e2, e3, e4, r1, r2⟩
