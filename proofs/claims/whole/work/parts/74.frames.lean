/-! the stacks: what stands on top is put on, taken off, looked at -/
theorem get_lt {l : List (Nat × Nat)} {i : Nat} {e : Nat × Nat} (h : l[i]? = some e) : i < l.length := by
  by_cases hi : i < l.length
  · exact hi
  · rw [List.getElem?_eq_none (by omega)] at h
    exact absurd h (by simp)
theorem push_c {τ : St} {a : Nat} {e : Nat × Nat} {l : List (Nat × Nat)} (h : FrC τ a l) (hl : l.length < 64) :
    Hp (m_X3_push (40 + 7 * a) (ckd e.1) (cvl e) τ) (fun τ' => FrC τ' a (e :: l) ∧ ∀ k j, k ≠ 41 + 7 * a → k ≠ 42 + 7 * a → ¬ (k = 40 + 7 * a ∧ j = 2) → τ' k j = τ k j) := by
  obtain ⟨h1, h2, h3⟩ := h
  rw [m_X3_push, if_neg (by omega), if_neg (by omega), Hp_bind, Hp_wt]
  refine ⟨by omega, ?_⟩
  rw [Hp_bind, Hp_wt, up_cell (by omega)]
  refine ⟨by omega, ?_⟩
  rw [Hp_bind, Hp_pt, Hp_some, up_cell (by omega), up_cell (by omega), wr_id' (by omega) (by omega), show (τ (40 + 7 * a) 2).toNat = l.length by omega, show 40 + 7 * a + 1 = 41 + 7 * a by omega, show 40 + 7 * a + 2 = 42 + 7 * a by omega]
  refine ⟨⟨?_, ?_, ?_⟩, ?_⟩
  · rw [up_eq, h1]; simp
  · simp only [List.length_cons]; omega
  · intro i e' he
    cases i with
    | zero =>
      have he' : e' = e := by simpa using he.symm
      subst he'
      simp only [List.length_cons]
      rw [show l.length + 1 - 1 - 0 = l.length by omega]
      refine ⟨?_, ?_⟩ <;> simp (disch := omega) only [up_eq, up_cell, up_slot]
    | succ i =>
      have he' : l[i]? = some e' := by simpa using he
      have hi := get_lt he'
      have := h3 i e' he'
      simp only [List.length_cons]
      rw [show l.length + 1 - 1 - (i + 1) = l.length - 1 - i by omega]
      refine ⟨?_, ?_⟩
      · simp (disch := omega) only [up_eq, up_cell, up_slot]; exact this.1
      · simp (disch := omega) only [up_eq, up_cell, up_slot]; exact this.2
  · intro k j n1 n2 n3
    by_cases hk : k = 40 + 7 * a
    · subst hk
      rw [up_slot (by omega), up_cell (by omega), up_cell (by omega)]
    · rw [up_cell hk, up_cell n2, up_cell n1]
theorem pop_c {τ : St} {a : Nat} {e : Nat × Nat} {l : List (Nat × Nat)} (h : FrC τ a (e :: l)) :
    Hp (m_X3_pop (40 + 7 * a) τ) (fun q => q.1 = cvl e ∧ FrC q.2 a l ∧ ∀ k j, ¬ (k = 40 + 7 * a ∧ j = 2) → q.2 k j = τ k j) := by
  obtain ⟨h1, h2, h3⟩ := h
  simp only [List.length_cons] at h1 h2 h3
  rw [m_X3_pop, if_neg (by omega), if_pos (by omega), Hp_bind, Hp_pt, Hp_bind, Hp_rd, up_eq, wr_id' (by omega) (by omega)]
  refine ⟨by omega, ?_⟩
  rw [Hp_some, up_cell (by omega), show (τ (40 + 7 * a) 2 - 1).toNat = l.length by omega, show 40 + 7 * a + 2 = 42 + 7 * a by omega]
  have h0 := h3 0 e (by simp)
  rw [show l.length + 1 - 1 - 0 = l.length by omega] at h0
  refine ⟨h0.2, ⟨?_, by omega, ?_⟩, ?_⟩
  · simp only; rw [up_eq]; omega
  · intro i e' he
    have hi := get_lt he
    have := h3 (i + 1) e' (by simpa using he)
    rw [show l.length + 1 - 1 - (i + 1) = l.length - 1 - i by omega] at this
    simp only
    rw [up_cell (by omega), up_cell (by omega)]
    exact this
  · intro k j n3
    simp only
    by_cases hk : k = 40 + 7 * a
    · subst hk
      rw [up_slot (by omega)]
    · rw [up_cell hk]
theorem top_c {τ : St} {a : Nat} {e : Nat × Nat} {l : List (Nat × Nat)} (h : FrC τ a (e :: l)) : m_X3_top (40 + 7 * a) τ = some (cvl e) := by
  obtain ⟨h1, h2, h3⟩ := h
  simp only [List.length_cons] at h1 h2 h3
  have h0 := h3 0 e (by simp)
  rw [show l.length + 1 - 1 - 0 = l.length by omega] at h0
  rw [m_X3_top, if_neg (by omega), if_neg (by omega), wr_id' (by omega) (by omega), rd_ok (by omega) (by omega), bnd_s, show 40 + 7 * a + 2 = 42 + 7 * a by omega, show (τ (40 + 7 * a) 2 - 1).toNat = l.length by omega, h0.2]
theorem empty_c {τ : St} {a : Nat} {l : List (Nat × Nat)} (h : FrC τ a l) : m_X3_isEmpty (40 + 7 * a) τ = some (if l = [] then 1 else 0) := by
  obtain ⟨h1, h2, h3⟩ := h
  rw [m_X3_isEmpty]
  cases l with
  | nil => rw [if_neg (by simp at h1; omega), if_pos rfl]
  | cons e l =>
    simp only [List.length_cons] at h1
    rw [if_pos (by omega), if_neg (by simp)]
theorem push_m {f : Nat → Nat} {τ : St} {a : Nat} {e : Nat × Nat} {l : List (Nat × Nat)} (ha : a < 8) (h : FrM f τ a l) (hl : l.length < 64) :
    Hp (m_X12_pushes a (e.1 : Int) (mvl f e) τ) (fun τ' => FrM f τ' a (e :: l) ∧ Wr ([(218, 220)], []) τ τ' ∧ (∀ b, b ≠ a → τ' 218 b = τ 218 b) ∧ ∀ i, i ≠ 64 * a + l.length → τ' 219 i = τ 219 i ∧ τ' 220 i = τ 220 i) := by
  obtain ⟨h1, h2, h3⟩ := h
  rw [m_X12_pushes, rd_ok (by omega) (by omega), bnd_s, Int.toNat_natCast, h1, wr_id' (x := 64 * (a : Int)) (by omega) (by omega), wr_id' (x := 64 * (a : Int) + (l.length : Int)) (by omega) (by omega), Hp_bind, Hp_wt]
  refine ⟨by omega, ?_⟩
  rw [rd_ok (by omega) (by omega), bnd_s, Int.toNat_natCast, up_cell (by decide), h1, wr_id' (x := 64 * (a : Int) + (l.length : Int)) (by omega) (by omega), Hp_bind, Hp_wt]
  refine ⟨by omega, ?_⟩
  rw [rd_ok (by omega) (by omega), bnd_s, Int.toNat_natCast, up_cell (by decide), up_cell (by decide), h1, wr_id' (x := (l.length : Int) + 1) (by omega) (by omega), Hp_bind, Hp_wt]
  refine ⟨by omega, ?_⟩
  rw [Hp_some, Int.toNat_natCast, show (64 * (a : Int) + (l.length : Int)).toNat = 64 * a + l.length by omega]
  refine ⟨⟨?_, ?_, ?_⟩, Wr_up (Wr_up (Wr_up Wr_rf rfl) rfl) rfl, ?_, ?_⟩
  · rw [up_eq]; simp
  · simp only [List.length_cons]; omega
  · intro i e' he
    cases i with
    | zero =>
      have he' : e' = e := by simpa using he.symm
      subst he'
      simp only [List.length_cons]
      rw [show l.length + 1 - 1 - 0 = l.length by omega]
      refine ⟨?_, ?_⟩ <;> simp (disch := omega) only [up_eq, up_cell, up_slot]
    | succ i =>
      have he' : l[i]? = some e' := by simpa using he
      have hi := get_lt he'
      have := h3 i e' he'
      simp only [List.length_cons]
      rw [show l.length + 1 - 1 - (i + 1) = l.length - 1 - i by omega]
      refine ⟨?_, ?_⟩
      · simp (disch := omega) only [up_eq, up_cell, up_slot]; exact this.1
      · simp (disch := omega) only [up_eq, up_cell, up_slot]; exact this.2
  · intro b hb
    rw [up_slot hb, up_cell (by decide), up_cell (by decide)]
  · intro i hi
    refine ⟨?_, ?_⟩ <;> simp (disch := omega) only [up_eq, up_cell, up_slot]
/-- one entry taken off the model's pile -/
theorem pop_m {f : Nat → Nat} {τ : St} {a : Nat} {e : Nat × Nat} {l : List (Nat × Nat)} (h : FrM f τ a (e :: l)) : FrM f (up τ 218 a (l.length : Int)) a l ∧ τ 218 a = (l.length : Int) + 1 ∧ l.length < 64 ∧ τ 219 (64 * a + l.length) = (e.1 : Int) ∧ τ 220 (64 * a + l.length) = mvl f e := by
  obtain ⟨h1, h2, h3⟩ := h
  simp only [List.length_cons] at h1 h2 h3
  have h0 := h3 0 e (by simp)
  rw [show l.length + 1 - 1 - 0 = l.length by omega] at h0
  refine ⟨⟨up_eq _ _ _ _, by omega, ?_⟩, by omega, by omega, h0.1, h0.2⟩
  intro i e' he
  have hi := get_lt he
  have := h3 (i + 1) e' (by simpa using he)
  rw [show l.length + 1 - 1 - (i + 1) = l.length - 1 - i by omega] at this
  rw [up_cell (by decide), up_cell (by decide)]
  exact this
/-- the innermost one met; none: -1 -/
def inn : List (Nat × Nat) → Int
  | [] => -1
  | e :: l => if e.1 = 2 then (e.2 : Int) else inn l
theorem inn_c {τ : St} {a : Nat} {l : List (Nat × Nat)} (h : FrC τ a l) (hs : ∀ e, e ∈ l → e.1 ≤ 2) : ∃ v, m_X3_innermost (40 + 7 * a) 15 τ = some v ∧ v = inn l := by
  obtain ⟨h1, h2, h3⟩ := h
  have hx : Hp (m_X3_innermost (40 + 7 * a) 15 τ) (fun v => v = inn l) := by
    rw [m_X3_innermost, show minI (τ (40 + 7 * a) 2) 64 = (l.length : Int) by unfold minI; split <;> omega]
    simp only [vl]
    rw [bnd_s, wr_id' (by omega) (by omega), Hp_bind]
    refine Hp_dn (fun j (x : Int) => x = (j : Int) - 1 ∧ j ≤ l.length ∧ inn l = inn (l.drop (l.length - j))) l.length (by omega) ⟨rfl, Nat.le_refl _, by simp⟩ ?_ ?_
    · rintro j x hj ⟨e1, e2, e3⟩
      have hx : x = (j : Int) := by omega
      subst hx
      have hge : (l.length - (j + 1)) < l.length := by omega
      have hg : l[l.length - (j + 1)]? = some (l[l.length - (j + 1)]'hge) := List.getElem?_eq_getElem hge
      have hd : l.drop (l.length - (j + 1)) = (l[l.length - (j + 1)]'hge) :: l.drop (l.length - j) := by
        rw [List.drop_eq_getElem_cons hge, show l.length - (j + 1) + 1 = l.length - j by omega]
      have hv := h3 _ _ hg
      rw [show l.length - 1 - (l.length - (j + 1)) = j by omega] at hv
      have hm := hs _ (List.getElem_mem hge)
      generalize l[l.length - (j + 1)]'hge = e at hg hd hv hm
      simp only [m_X3_innermost_L12]
      rw [if_neg (by omega), rd_ok (by omega) (by omega), bnd_s, Int.toNat_natCast, show 40 + 7 * a + 1 = 41 + 7 * a by omega, hv.1]
      have hk : ckd e.1 = 15 ↔ e.1 = 2 := by
        have : e.1 = 0 ∨ e.1 = 1 ∨ e.1 = 2 := by omega
        rcases this with q | q | q <;> rw [q] <;> decide
      by_cases hc : ckd e.1 = 15
      · rw [if_pos hc, rd_ok (by omega) (by omega), bnd_s, Int.toNat_natCast, show 40 + 7 * a + 2 = 42 + 7 * a by omega, hv.2, Hp_some, Lq_inr]
        simp only [Hp_some]
        rw [e3, hd]
        unfold inn cvl
        have h2' := hk.mp hc
        rw [if_pos h2', if_neg (by omega)]
      · rw [if_neg hc, Hp_some, Lq_inl, wr_id' (by omega) (by omega)]
        refine ⟨by omega, by omega, ?_⟩
        rw [e3, hd]
        show (if e.1 = 2 then (e.2 : Int) else inn (l.drop (l.length - j))) = _
        rw [if_neg (fun q => hc (hk.mpr q))]
    · rintro x ⟨e1, e2, e3⟩
      simp only [m_X3_innermost_L12]
      rw [if_pos (by omega), Hp_some, Lq_inr]
      simp only [Hp_some]
      rw [e3, show l.length - 0 = l.length by omega, List.drop_length]
      rfl
  obtain ⟨v, k1, k2⟩ := hx
  exact ⟨v, k1, k2⟩
