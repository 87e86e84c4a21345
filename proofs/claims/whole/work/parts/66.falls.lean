/-! falls, fallen -/
def popc (x : Int) : Nat := cnt (fun i => tb x i) 8
noncomputable def pcP (P : Nat → Prop) : Nat := cnt (fun s => @decide (P s) (Classical.propDecidable _)) 8
theorem cnt_cg {p q : Nat → Bool} {n : Nat} (h : ∀ i, i < n → p i = q i) : cnt p n = cnt q n := by
  induction n with
  | zero => rfl
  | succ n ih =>
    unfold cnt
    rw [ih (fun i hi => h i (by omega)), h n (by omega)]
theorem popc_P {x : Int} {P : Nat → Prop} (h : Bs x P) : popc x = pcP P := by
  unfold popc pcP
  apply cnt_cg
  intro i _
  have := h.2 i
  by_cases hp : P i
  · rw [this.mpr hp]
    exact (@decide_eq_true _ (Classical.propDecidable _) hp).symm
  · have hf : tb x i = false := by
      cases hb : tb x i with
      | false => rfl
      | true => exact absurd (this.mp hb) hp
    rw [hf]
    exact (@decide_eq_false _ (Classical.propDecidable _) hp).symm
set_option maxRecDepth 100000 in
theorem bitC_all : ∀ n : Fin 256, m_J6_bitCount_0f7a4 (n.val : Int) (fun _ _ => 0) = some ((cnt (fun i => n.val.testBit i) 8 : Nat) : Int) := by decide +kernel
theorem mask8 {x : Int} {P : Nat → Prop} (h : Bs x P) (hP : ∀ s, P s → s < 8) : 0 ≤ x ∧ x < 256 := by
  have := (mask_iff h.1 (n := 8) (by decide)).mpr (fun i hi => by
    cases hb : tb x i with
    | false => rfl
    | true => have := hP i ((h.2 i).mp hb); omega)
  simpa using this
theorem bitC_sp {x : Int} {P : Nat → Prop} {τ : St} (h : Bs x P) (hP : ∀ s, P s → s < 8) : m_J6_bitCount_0f7a4 x τ = some (popc x : Int) := by
  obtain ⟨h0, h1⟩ := mask8 h hP
  obtain ⟨n, rfl⟩ := Int.eq_ofNat_of_zero_le h0
  have e := bitC_all ⟨n, by omega⟩
  have e2 : m_J6_bitCount_0f7a4 (n : Int) τ = m_J6_bitCount_0f7a4 (n : Int) (fun _ _ => 0) := rfl
  rw [e2, e]
  congr 2
  unfold popc
  apply cnt_cg
  intro i hi
  rw [tb_nat _ _ (by omega)]
theorem bits_sp {x : Int} {τ : St} : m_X12_bits x τ = some (popc x : Int) := by
  have h : Hp (m_X12_bits x τ) (fun v => v = (popc x : Int)) := by
    rw [m_X12_bits, Hp_bind]
    simp only [Hp_some]
    refine Hp_up (fun j (z : Int × Int) => z.2 = (j : Int) ∧ z.1 = (cnt (fun i => tb x i) j : Nat)) 0 8 (by omega) (by omega) ⟨rfl, rfl⟩ ?_ ?_
    · rintro j ⟨y, z⟩ - hj ⟨e1, e2⟩
      simp only at e1 e2
      subst e1; subst e2
      have hc := cnt_le (fun i => tb x i) j
      simp only [m_X12_bits_L4, vl]
      rw [if_neg (by omega), bit_at x (by omega), bnd_s, Hp_some, Lq_inl, nx1 (by omega)]
      refine ⟨rfl, ?_⟩
      simp only [cnt]
      by_cases hb : tb x j = true
      · rw [if_pos hb, if_pos hb, wr_id' (by omega) (by omega)]; omega
      · rw [if_neg hb, if_neg hb, wr_id' (by omega) (by omega)]; omega
    · rintro ⟨y, z⟩ ⟨e1, e2⟩
      simp only at e1 e2
      subst e1; subst e2
      simp only [m_X12_bits_L4]
      rw [if_pos (by omega), Hp_some, Lq_inr]
      rfl
  obtain ⟨v, h1, h2⟩ := h
  rw [h1, h2]
/-- who falls if a set is taken -/
def Gn (σ : St) (r : Nat) (set : Int) (s : Nat) : Prop := tb set s = true ∨ (s < r ∧ ∃ i, i < r ∧ tb set i = true ∧ σ 207 (8 * i + s) ≠ -1)
/-- the meetings stand, of r agents -/
def MetQ (σ : St) (r : Nat) : Prop := r ≤ 8 ∧ σ 129 1 = r ∧ σ 170 48 = r ∧ ∀ a b : Nat, a < r → b < r → σ 207 (8 * a + b) = σ (133 + a) b
theorem who_sp {σ : St} {r : Nat} {set : Int} (hM : MetQ σ r) (hset : InI set) : ∃ x, m_X8_whoFalls set σ = some x ∧ Bs x (Gn σ r set) := by
  obtain ⟨hr, h1, h2, h3⟩ := hM
  have h : Hp (m_X8_whoFalls set σ) (fun x => Bs x (Gn σ r set)) := by
    rw [m_X8_whoFalls, Hp_bind]
    simp only [Hp_some]
    refine Hp_up (fun j (z : Int × Int) => z.2 = (j : Int) ∧ Bs z.1 (fun s => tb set s = true ∨ (s < r ∧ ∃ i, i < j ∧ tb set i = true ∧ σ 207 (8 * i + s) ≠ -1))) 0 r (by omega) (by omega) ⟨rfl, hset, fun s => ⟨Or.inl, fun q => q.elim id (fun ⟨_, i, h, _⟩ => by omega)⟩⟩ ?_ ?_
    · rintro i ⟨y, x⟩ - hi ⟨e1, e2⟩
      simp only at e1 e2
      subst e1
      simp only [m_X8_whoFalls_L4]
      rw [if_neg (by omega), if_neg (by omega), Hp_bind]
      refine Hp_up (fun j (z : Int × Int) => z.2 = (j : Int) ∧ Bs z.1 (fun s => (tb set s = true ∨ (s < r ∧ ∃ i', i' < i ∧ tb set i' = true ∧ σ 207 (8 * i' + s) ≠ -1)) ∨ (s < j ∧ tb set i = true ∧ σ 207 (8 * i + s) ≠ -1))) 0 r (by omega) (by omega) ⟨rfl, Bs_cg e2 (fun s => ⟨Or.inl, fun q => q.elim id (fun ⟨h, _⟩ => by omega)⟩)⟩ ?_ ?_
      · rintro j ⟨y, x⟩ - hj ⟨g1, g2⟩
        simp only at g1 g2
        subst g1
        have hno : ¬ (tb set i = true ∧ σ 207 (8 * i + j) ≠ -1) → Bs y (fun s => (tb set s = true ∨ (s < r ∧ ∃ i', i' < i ∧ tb set i' = true ∧ σ 207 (8 * i' + s) ≠ -1)) ∨ (s < j + 1 ∧ tb set i = true ∧ σ 207 (8 * i + s) ≠ -1)) := by
          intro hn
          refine Bs_cg g2 ?_
          intro s
          constructor
          · rintro (q | ⟨q1, q2⟩)
            · exact Or.inl q
            · exact Or.inr ⟨by omega, q2⟩
          · rintro (q | ⟨q1, q2⟩)
            · exact Or.inl q
            · by_cases hsj : s = j
              · subst hsj; exact absurd q2 hn
              · exact Or.inr ⟨by omega, q2⟩
        simp only [m_X8_whoFalls_L21]
        rw [if_neg (by omega), if_neg (by omega), bit_at set (by omega)]
        by_cases hb : tb set i = true
        · rw [if_pos hb, if_neg (by decide), rr_ok (by omega) (by omega), bnd_s, rd_ok (by omega) (by omega), bnd_s]
          simp only [Int.toNat_natCast, rf_met (show i < 8 by omega)]
          rw [← h3 i j hi hj]
          by_cases hm : σ 207 (8 * i + j) = -1
          · rw [if_pos hm, Hp_some, Lq_inl, nx1 (by omega)]
            exact ⟨rfl, hno (fun q => q.2 hm)⟩
          · rw [if_neg hm]
            simp only [vl]
            rw [bnd_s, Hp_some, Lq_inl, nx1 (by omega)]
            refine ⟨rfl, Bs_cg (Bs_or g2 (Bs_bit (i := j) (by omega))) ?_⟩
            intro s
            constructor
            · rintro ((q | ⟨q1, q2⟩) | q)
              · exact Or.inl q
              · exact Or.inr ⟨by omega, q2⟩
              · subst q; exact Or.inr ⟨by omega, hb, hm⟩
            · rintro (q | ⟨q1, q2⟩)
              · exact Or.inl (Or.inl q)
              · by_cases hsj : s = j
                · exact Or.inr hsj
                · exact Or.inl (Or.inr ⟨by omega, q2⟩)
        · rw [if_neg hb, if_pos rfl, Hp_some, Lq_inl, nx1 (by omega)]
          exact ⟨rfl, hno (fun q => hb q.1)⟩
      · rintro ⟨y, x⟩ ⟨g1, g2⟩
        simp only at g1 g2
        subst g1
        simp only [m_X8_whoFalls_L21]
        rw [if_pos (by omega), Hp_some, Lq_inr, Hp_some, Lq_inl, nx1 (by omega)]
        refine ⟨rfl, Bs_cg g2 ?_⟩
        intro s
        constructor
        · rintro ((q | ⟨q1, i', q2, q3⟩) | ⟨q1, q2⟩)
          · exact Or.inl q
          · exact Or.inr ⟨q1, i', by omega, q3⟩
          · exact Or.inr ⟨q1, i, by omega, q2⟩
        · rintro (q | ⟨q1, i', q2, q3⟩)
          · exact Or.inl (Or.inl q)
          · by_cases hii : i' = i
            · subst hii; exact Or.inr ⟨q1, q3⟩
            · exact Or.inl (Or.inr ⟨q1, i', by omega, q3⟩)
    · rintro ⟨y, x⟩ ⟨e1, e2⟩
      simp only at e1 e2
      subst e1
      simp only [m_X8_whoFalls_L4]
      rw [if_pos (by omega), Hp_some, Lq_inr]
      exact e2
  obtain ⟨x, g1, g2⟩ := h
  exact ⟨x, g1, g2⟩
theorem gone_sp {σ : St} {r : Nat} {set : Int} (hr : r ≤ 8) (h2 : σ 170 48 = r) (hset : InI set) : ∃ x, lp (fun z => m_X12_fall_L57 σ set z.1 z.2) (set, 0) = some x ∧ Bs x (Gn σ r set) := by
  have h : Hp (lp (fun z => m_X12_fall_L57 σ set z.1 z.2) (set, 0)) (fun x => Bs x (Gn σ r set)) := by
    refine Hp_up (fun j (z : Int × Int) => z.2 = (j : Int) ∧ Bs z.1 (fun s => tb set s = true ∨ (s < r ∧ ∃ i, i < j ∧ tb set i = true ∧ σ 207 (8 * i + s) ≠ -1))) 0 r (by omega) (by omega) ⟨rfl, hset, fun s => ⟨Or.inl, fun q => q.elim id (fun ⟨_, i, h, _⟩ => by omega)⟩⟩ ?_ ?_
    · rintro i ⟨y, x⟩ - hi ⟨e1, e2⟩
      simp only at e1 e2
      subst e1
      simp only [m_X12_fall_L57]
      rw [if_neg (by omega), Hp_bind]
      refine Hp_up (fun j (z : Int × Int) => z.2 = (j : Int) ∧ Bs z.1 (fun s => (tb set s = true ∨ (s < r ∧ ∃ i', i' < i ∧ tb set i' = true ∧ σ 207 (8 * i' + s) ≠ -1)) ∨ (s < j ∧ tb set i = true ∧ σ 207 (8 * i + s) ≠ -1))) 0 r (by omega) (by omega) ⟨rfl, Bs_cg e2 (fun s => ⟨Or.inl, fun q => q.elim id (fun ⟨h, _⟩ => by omega)⟩)⟩ ?_ ?_
      · rintro j ⟨y, x⟩ - hj ⟨g1, g2⟩
        simp only at g1 g2
        subst g1
        have hno : ¬ (tb set i = true ∧ σ 207 (8 * i + j) ≠ -1) → Bs y (fun s => (tb set s = true ∨ (s < r ∧ ∃ i', i' < i ∧ tb set i' = true ∧ σ 207 (8 * i' + s) ≠ -1)) ∨ (s < j + 1 ∧ tb set i = true ∧ σ 207 (8 * i + s) ≠ -1)) := by
          intro hn
          refine Bs_cg g2 ?_
          intro s
          constructor
          · rintro (q | ⟨q1, q2⟩)
            · exact Or.inl q
            · exact Or.inr ⟨by omega, q2⟩
          · rintro (q | ⟨q1, q2⟩)
            · exact Or.inl q
            · by_cases hsj : s = j
              · subst hsj; exact absurd q2 hn
              · exact Or.inr ⟨by omega, q2⟩
        simp only [m_X12_fall_L69]
        rw [if_neg (by omega), bit_at set (by omega)]
        by_cases hb : tb set i = true
        · rw [if_pos hb, if_pos rfl, wr_id' (x := 8 * (i : Int)) (by omega) (by omega), wr_id' (x := 8 * (i : Int) + (j : Int)) (by omega) (by omega), rd_ok (by omega) (by omega), bnd_s, show (8 * (i : Int) + (j : Int)).toNat = 8 * i + j by omega]
          by_cases hm : σ 207 (8 * i + j) = -1
          · rw [if_pos hm, Hp_some, Lq_inl, nx1 (by omega)]
            exact ⟨rfl, hno (fun q => q.2 hm)⟩
          · rw [if_neg hm]
            simp only [vl]
            rw [bnd_s, Hp_some, Lq_inl, nx1 (by omega)]
            refine ⟨rfl, Bs_cg (Bs_or g2 (Bs_bit (i := j) (by omega))) ?_⟩
            intro s
            constructor
            · rintro ((q | ⟨q1, q2⟩) | q)
              · exact Or.inl q
              · exact Or.inr ⟨by omega, q2⟩
              · subst q; exact Or.inr ⟨by omega, hb, hm⟩
            · rintro (q | ⟨q1, q2⟩)
              · exact Or.inl (Or.inl q)
              · by_cases hsj : s = j
                · exact Or.inr hsj
                · exact Or.inl (Or.inr ⟨by omega, q2⟩)
        · rw [if_neg hb, if_neg (by decide), Hp_some, Lq_inl, nx1 (by omega)]
          exact ⟨rfl, hno (fun q => hb q.1)⟩
      · rintro ⟨y, x⟩ ⟨g1, g2⟩
        simp only at g1 g2
        subst g1
        simp only [m_X12_fall_L69]
        rw [if_pos (by omega), Hp_some, Lq_inr, Hp_some, Lq_inl, nx1 (by omega)]
        refine ⟨rfl, Bs_cg g2 ?_⟩
        intro s
        constructor
        · rintro ((q | ⟨q1, i', q2, q3⟩) | ⟨q1, q2⟩)
          · exact Or.inl q
          · exact Or.inr ⟨q1, i', by omega, q3⟩
          · exact Or.inr ⟨q1, i, by omega, q2⟩
        · rintro (q | ⟨q1, i', q2, q3⟩)
          · exact Or.inl (Or.inl q)
          · by_cases hii : i' = i
            · subst hii; exact Or.inr ⟨q1, q3⟩
            · exact Or.inl (Or.inr ⟨q1, i', by omega, q3⟩)
    · rintro ⟨y, x⟩ ⟨e1, e2⟩
      simp only at e1 e2
      subst e1
      simp only [m_X12_fall_L57]
      rw [if_pos (by omega), Hp_some, Lq_inr]
      exact e2
  obtain ⟨x, g1, g2⟩ := h
  exact ⟨x, g1, g2⟩
theorem shl1 : ∀ n : Fin 9, shlI 1 (n.val : Int) = ((2 ^ n.val : Nat) : Int) := by decide
noncomputable def pcG (σ : St) (r : Nat) (set : Int) : Nat := pcP (Gn σ r set)
/-- the least agent that is not in both is in the first -/
def ahd (x y : Int) : Prop := ¬ andI (andI (xorI x y) (wr (-(xorI x y)))) x = 0
/-- the best of the first j sets of k agents, and how many fall by it -/
noncomputable def Fs (σ : St) (r k : Nat) : Nat → Int × Int
  | 0 => (0, -1)
  | j + 1 => @ite _ (popc (j : Int) = k ∧ ((Fs σ r k j).2 < pcG σ r j ∨ ((pcG σ r j : Int) = (Fs σ r k j).2 ∧ ahd j (Fs σ r k j).1))) (Classical.propDecidable _) ((j : Int), (pcG σ r j : Int)) (Fs σ r k j)
theorem Fs_yes {σ : St} {r k j : Nat} (h : popc (j : Int) = k ∧ ((Fs σ r k j).2 < pcG σ r j ∨ ((pcG σ r j : Int) = (Fs σ r k j).2 ∧ ahd j (Fs σ r k j).1))) : Fs σ r k (j + 1) = ((j : Int), (pcG σ r j : Int)) := by
  rw [Fs]
  exact @if_pos _ (Classical.propDecidable _) h _ _ _
theorem Fs_no {σ : St} {r k j : Nat} (h : ¬ (popc (j : Int) = k ∧ ((Fs σ r k j).2 < pcG σ r j ∨ ((pcG σ r j : Int) = (Fs σ r k j).2 ∧ ahd j (Fs σ r k j).1)))) : Fs σ r k (j + 1) = Fs σ r k j := by
  rw [Fs]
  exact @if_neg _ (Classical.propDecidable _) h _ _ _
theorem Fs_inv {σ : St} {r k : Nat} : ∀ j, (Fs σ r k j = (0, -1) ∧ ∀ i, i < j → popc (i : Int) ≠ k) ∨ ∃ i : Nat, i < j ∧ popc (i : Int) = k ∧ Fs σ r k j = ((i : Int), (pcG σ r i : Int)) := by
  intro j
  induction j with
  | zero => exact Or.inl ⟨rfl, fun i h => by omega⟩
  | succ j ih =>
    by_cases h : popc (j : Int) = k ∧ ((Fs σ r k j).2 < pcG σ r j ∨ ((pcG σ r j : Int) = (Fs σ r k j).2 ∧ ahd j (Fs σ r k j).1))
    · exact Or.inr ⟨j, by omega, h.1, Fs_yes h⟩
    · rw [Fs_no h]
      rcases ih with ⟨h1, h2⟩ | ⟨i, h1, h2, h3⟩
      · refine Or.inl ⟨h1, fun i hi => ?_⟩
        by_cases hij : i = j
        · subst hij
          intro q
          apply h
          refine ⟨q, Or.inl ?_⟩
          rw [h1]
          simp only
          omega
        · exact h2 i (by omega)
      · exact Or.inr ⟨i, by omega, h2, h3⟩
theorem isAhead_eq {x y : Int} {σ : St} : ∃ b, m_X11_isAhead x y σ = some b ∧ Bb b (ahd x y) := by
  rw [m_X11_isAhead]
  simp only [vl]
  rw [bnd_s]
  by_cases h : andI (andI (xorI x y) (wr (-(xorI x y)))) x = 0
  · rw [if_pos h]; exact ⟨0, rfl, Bb_0 (fun q => q h)⟩
  · rw [if_neg h]; exact ⟨1, rfl, Bb_1 h⟩
theorem ahd_m (x y : Int) : andI (andI x (xorI x y)) (wr (-(xorI x y))) = andI (andI (xorI x y) (wr (-(xorI x y)))) x := by
  apply tb_ext (andI_in _ _) (andI_in _ _)
  intro i _
  rw [tb_and, tb_and, tb_and, tb_and]
  cases tb x i <;> cases tb (xorI x y) i <;> cases tb (wr (-(xorI x y))) i <;> rfl
theorem gn_8 {σ : St} {r : Nat} {set : Nat} (hr : r ≤ 8) (hs : set < 2 ^ r) (s : Nat) (h : Gn σ r (set : Int) s) : s < r := by
  rcases h with h | ⟨h, -⟩
  · by_cases hlt : s < r
    · exact hlt
    · exfalso
      by_cases h32 : s < 32
      · rw [tb_nat _ _ h32, Nat.testBit_lt_two_pow (Nat.lt_of_lt_of_le hs (Nat.pow_le_pow_right (by decide) (by omega)))] at h
        exact absurd h (by decide)
      · rw [tb_hi _ (by omega)] at h
        exact absurd h (by decide)
  · exact h
theorem pow8 : ∀ r : Fin 9, 2 ^ r.val ≤ 256 := by decide
theorem Bs_self {x : Int} (h : InI x) : Bs x (fun s => tb x s = true) := ⟨h, fun _ => Iff.rfl⟩
theorem worst_sp {σ : St} {r k : Nat} (hM : MetQ σ r) (hk : k ≤ r) : Hp (lp (fun z => m_X11_worstTaken_L20 σ (k : Int) z.1 z.2.1 z.2.2) (0, -1, 0)) (fun w => w = (Fs σ r k (2 ^ r)).1) := by
  have hr := hM.1
  have h1 := hM.2.1
  have hp := pow8 ⟨r, by omega⟩
  simp only at hp
  have hsh : shlI 1 (σ 129 1) = ((2 ^ r : Nat) : Int) := by rw [h1]; exact shl1 ⟨r, by omega⟩
  generalize hN : 2 ^ r = N at hp hsh ⊢
  refine Hp_up (fun j (z : Int × Int × Int) => z.2.2 = (j : Int) ∧ (z.1, z.2.1) = Fs σ r k j) 0 (N) (by omega) (by omega) ⟨rfl, rfl⟩ ?_ ?_
  · rintro j ⟨w, m, x⟩ - hj ⟨e1, e2⟩
    simp only at e1 e2
    subst e1
    have ew : w = (Fs σ r k j).1 := by rw [← e2]
    have em : m = (Fs σ r k j).2 := by rw [← e2]
    have hin : InI (j : Int) := ⟨by omega, by omega⟩
    have h8 : ∀ s, tb (j : Int) s = true → s < 8 := fun s hs => by have := gn_8 (σ := σ) hr (by rw [hN]; exact hj) s (Or.inl hs); omega
    simp only [m_X11_worstTaken_L20]
    rw [if_neg (by rw [hsh]; omega), bitC_sp (Bs_self hin) h8, bnd_s]
    have hno : ¬ (popc (j : Int) = k ∧ ((Fs σ r k j).2 < pcG σ r j ∨ ((pcG σ r j : Int) = (Fs σ r k j).2 ∧ ahd j (Fs σ r k j).1))) → Hp (some (Sum.inl (w, m, wr ((j : Int) + 1)))) (Lq (fun w => w = (Fs σ r k (N)).1) (fun (z : Int × Int × Int) => z.2.2 = ((j + 1 : Nat) : Int) ∧ (z.1, z.2.1) = Fs σ r k (j + 1))) := by
      intro hn
      rw [Hp_some, Lq_inl, nx1 (by omega)]
      exact ⟨rfl, by rw [Fs_no hn]; exact e2⟩
    have hyes : (popc (j : Int) = k ∧ ((Fs σ r k j).2 < pcG σ r j ∨ ((pcG σ r j : Int) = (Fs σ r k j).2 ∧ ahd j (Fs σ r k j).1))) → Hp (m_X11_worstTaken_J80 (j : Int) (pcG σ r j : Int)) (Lq (fun w => w = (Fs σ r k (N)).1) (fun (z : Int × Int × Int) => z.2.2 = ((j + 1 : Nat) : Int) ∧ (z.1, z.2.1) = Fs σ r k (j + 1))) := by
      intro hy
      rw [m_X11_worstTaken_J80, Hp_some, Lq_inl, nx1 (by omega)]
      exact ⟨rfl, by rw [Fs_yes hy]⟩
    by_cases hc : (popc (j : Int) : Int) = (k : Int)
    · have hc' : popc (j : Int) = k := by omega
      rw [if_pos hc]
      obtain ⟨g, g1, g2⟩ := who_sp hM hin
      have hg : popc g = pcG σ r j := popc_P g2
      rw [g1, bnd_s, bitC_sp g2 (fun s hs => by have := gn_8 hr (by rw [hN]; exact hj) s hs; omega), bnd_s, hg]
      by_cases h2 : m < (pcG σ r j : Int)
      · rw [if_pos h2]
        exact hyes ⟨hc', Or.inl (by rw [← em]; exact h2)⟩
      · rw [if_neg h2]
        by_cases h3 : (pcG σ r j : Int) = m
        · rw [if_pos h3]
          obtain ⟨b, b1, b2⟩ := isAhead_eq (x := (j : Int)) (y := w) (σ := σ)
          rw [b1, bnd_s]
          by_cases hz : b = 0
          · rw [if_pos hz]
            refine hno ?_
            rintro ⟨-, (q | ⟨-, q⟩)⟩
            · rw [← em] at q; omega
            · rw [← ew] at q; exact (Bb_ne b2).mp hz q
          · rw [if_neg hz]
            refine hyes ⟨hc', Or.inr ⟨by rw [← em]; exact h3, ?_⟩⟩
            rw [← ew]; exact b2.2.mp (by have := b2.1; omega)
        · rw [if_neg h3]
          refine hno ?_
          rintro ⟨-, (q | ⟨q, -⟩)⟩
          · rw [← em] at q; omega
          · rw [← em] at q; exact h3 q
    · rw [if_neg hc]
      exact hno (fun q => hc (by omega))
  · rintro ⟨w, m, x⟩ ⟨e1, e2⟩
    simp only at e1 e2
    subst e1
    simp only [m_X11_worstTaken_L20]
    rw [if_pos (by rw [hsh]; omega), Hp_some, Lq_inr]
    rw [← e2]
theorem m_fall_sp {σ : St} {r k : Nat} (hr : r ≤ 8) (h2 : σ 170 48 = r) : Hp (lp (fun z => m_X12_fall_L32 (((2 ^ r : Nat) : Int) - 1) (k : Int) z.1 z.2.1 z.2.2) (-1, 0, σ)) (fun q => q.1 = (Fs σ r k (2 ^ r)).2 ∧ Wr ([], [(170, 73)]) σ q.2 ∧ (q.1 ≠ -1 → q.2 170 73 = (Fs σ r k (2 ^ r)).1)) := by
  have hp := pow8 ⟨r, by omega⟩
  simp only at hp
  generalize hN : 2 ^ r = N at hp ⊢
  refine Hp_up (fun j (z : Int × Int × St) => z.2.1 = (j : Int) ∧ z.1 = (Fs σ r k j).2 ∧ Wr ([], [(170, 73)]) σ z.2.2 ∧ (z.1 ≠ -1 → z.2.2 170 73 = (Fs σ r k j).1)) 0 (N) (by omega) (by omega) ⟨rfl, rfl, Wr_rf, fun h => absurd rfl h⟩ ?_ ?_
  · rintro j ⟨m, x, τ⟩ - hj ⟨e1, e2, e3, e4⟩
    simp only at e1 e2 e3 e4
    subst e1
    have hin : InI (j : Int) := ⟨by omega, by omega⟩
    have hG : ∀ s, Gn τ r (j : Int) s ↔ Gn σ r (j : Int) s := by
      intro s
      unfold Gn
      rw [show τ 207 = σ 207 from funext fun i => e3 207 i rfl]
    simp only [m_X12_fall_L32]
    rw [if_neg (by omega), bits_sp, bnd_s]
    have hno : ¬ (popc (j : Int) = k ∧ ((Fs σ r k j).2 < pcG σ r j ∨ ((pcG σ r j : Int) = (Fs σ r k j).2 ∧ ahd j (Fs σ r k j).1))) → Hp (some (Sum.inl (m, wr ((j : Int) + 1), τ))) (Lq (fun (q : Int × St) => q.1 = (Fs σ r k (N)).2 ∧ Wr ([], [(170, 73)]) σ q.2 ∧ (q.1 ≠ -1 → q.2 170 73 = (Fs σ r k (N)).1)) (fun (z : Int × Int × St) => z.2.1 = ((j + 1 : Nat) : Int) ∧ z.1 = (Fs σ r k (j + 1)).2 ∧ Wr ([], [(170, 73)]) σ z.2.2 ∧ (z.1 ≠ -1 → z.2.2 170 73 = (Fs σ r k (j + 1)).1))) := by
      intro hn
      rw [Hp_some, Lq_inl, nx1 (by omega), Fs_no hn]
      exact ⟨rfl, e2, e3, e4⟩
    by_cases hc : (popc (j : Int) : Int) = (k : Int)
    · have hc' : popc (j : Int) = k := by omega
      rw [if_pos hc]
      obtain ⟨g, g1, g2⟩ := gone_sp (σ := τ) (r := r) (set := (j : Int)) hr ((e3 170 48 rfl).trans h2) hin
      have hg : popc g = pcG σ r j := popc_P (Bs_cg g2 hG)
      rw [g1, bnd_s]
      simp only [vl]
      rw [bnd_s, bits_sp, hg]
      have hyes : (popc (j : Int) = k ∧ ((Fs σ r k j).2 < pcG σ r j ∨ ((pcG σ r j : Int) = (Fs σ r k j).2 ∧ ahd j (Fs σ r k j).1))) → Hp (m_X12_fall_J174 g τ (j : Int)) (Lq (fun (q : Int × St) => q.1 = (Fs σ r k (N)).2 ∧ Wr ([], [(170, 73)]) σ q.2 ∧ (q.1 ≠ -1 → q.2 170 73 = (Fs σ r k (N)).1)) (fun (z : Int × Int × St) => z.2.1 = ((j + 1 : Nat) : Int) ∧ z.1 = (Fs σ r k (j + 1)).2 ∧ Wr ([], [(170, 73)]) σ z.2.2 ∧ (z.1 ≠ -1 → z.2.2 170 73 = (Fs σ r k (j + 1)).1))) := by
        intro hy
        rw [m_X12_fall_J174, bits_sp, bnd_s, pt_s, bnd_s, Hp_some, Lq_inl, nx1 (by omega), Fs_yes hy, hg]
        refine ⟨rfl, rfl, Wr_up e3 rfl, fun _ => ?_⟩
        simp only
        rw [up_eq]
      by_cases hm1 : m = -1
      · rw [if_pos hm1]
        exact hyes ⟨hc', Or.inl (by rw [← e2]; omega)⟩
      · have e5 := e4 hm1
        rw [if_neg hm1, bnd_s]
        by_cases h3 : (pcG σ r j : Int) < m
        · rw [if_pos h3]
          refine hno ?_
          rintro ⟨-, (q | ⟨q, -⟩)⟩ <;> rw [← e2] at q <;> omega
        · rw [if_neg h3, bnd_s]
          by_cases h4 : (pcG σ r j : Int) = m
          · rw [if_pos h4, e5, ahd_m]
            by_cases h5 : andI (andI (xorI (j : Int) (Fs σ r k j).1) (wr (-(xorI (j : Int) (Fs σ r k j).1)))) (j : Int) = 0
            · rw [if_pos h5]
              refine hno ?_
              rintro ⟨-, (q | ⟨-, q⟩)⟩
              · rw [← e2] at q; omega
              · exact q h5
            · rw [if_neg h5]
              exact hyes ⟨hc', Or.inr ⟨by rw [← e2]; exact h4, h5⟩⟩
          · rw [if_neg h4]
            exact hyes ⟨hc', Or.inl (by rw [← e2]; omega)⟩
    · rw [if_neg hc]
      exact hno (fun q => hc (by omega))
  · rintro ⟨m, x, τ⟩ ⟨e1, e2, e3, e4⟩
    simp only at e1 e2 e3 e4
    subst e1
    simp only [m_X12_fall_L32]
    rw [if_pos (by omega), Hp_some, Lq_inr]
    exact ⟨e2, e3, e4⟩
