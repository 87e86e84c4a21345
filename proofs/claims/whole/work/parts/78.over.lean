/-! the class's isOver and the model's passes in a row -/
/-- what isOver leaves of the class's state, for agent a -/
def OvC (a : Nat) (τ τ' : St) : Prop := ∀ k j, ¬ (k = 39 + 7 * a ∧ (j = 4 ∨ j = 18)) → ¬ (k = 40 + 7 * a ∧ j = 2) → τ' k j = τ k j
/-- and the model's passes of the model's -/
def OvM (a : Nat) (τ τ' : St) : Prop := ∀ k j, ¬ ((k = 212 ∨ k = 218 ∨ k = 211 ∨ k = 208) ∧ j = a) → τ' k j = τ k j
/-- both sides stand at step p with stack l -/
def AtS (σ : St) (n a A : Nat) (f : Nat → Nat) (cx : Nat → List Bool) (cd : Nat → Nat) (τ τm : St) (p : Nat) (l : List (Nat × Nat)) : Prop :=
  p < n ∧ τ (39 + 7 * a) 4 = (p : Int) ∧ τm 212 a = (f p : Int) ∧ FrC τ a l ∧ FrM f τm a l ∧ τ (39 + 7 * a) 18 = -1 ∧ τm 211 a = 0 ∧ ∃ d, Stk A n cx cd (d + 1) p l
/-- a turn of the model's loop that goes past an end -/
theorem turn_past {τ τ' : St} {a : Nat} (ha : a < 8) (h : τ 211 a = 0) (hp : m_X12_passes a τ = some (1, τ')) : m_X12_turn_L181 a τ = some (.inl τ') := by
  rw [m_X12_turn_L181, rd_ok (by omega) (by omega), bnd_s, Int.toNat_natCast, h, if_pos rfl, hp, bnd_s]
  exact if_neg (show ¬ ((1 : Int) = 0) by decide)
/-- the model passes one end, and where the else of a meet stands behind it, that too -/
theorem past_m {σ τm : St} {L n c a p A d : Nat} {f : Nat → Nat} {cx : Nat → List Bool} {cd : Nat → Nat} {l l' : List (Nat × Nat)} {p' : Nat} (hP : PgT σ 22 L n c f cx cd) (hL : L < 2) (h181 : τm 181 = σ 181) (h182 : τm 182 = σ 182) (ha : a < 8) (hp : p < n) (h4 : τm 212 a = (f p : Int)) (hF : FrM f τm a l) (hS : Stk A n cx cd (d + 1) p l) (h211 : τm 211 a = 0) (hN : Past σ 22 n cx cd p l p' l') :
    ∃ k τ', k ≤ 2 ∧ Rch (m_X12_turn_L181 a) k τm τ' ∧ FrM f τ' a l' ∧ τ' 212 a = (f p' : Int) ∧ ∀ k j, ¬ (k = 212 ∧ j = a) → ¬ (k = 218 ∧ j = a) → τ' k j = τm k j := by
  obtain ⟨⟨y, τ1⟩, h1, h2, h3, h5, h6⟩ := (pass_m hP hL h181 h182 ha hp h4 hF hS).2.2 p' l' hN
  simp only at h2 h3 h5 h6
  subst h2
  have t1 := turn_past ha h211 h1
  rcases h5 with h5 | ⟨h5, e1, e2, e3⟩
  · exact ⟨1, τ1, by omega, ⟨τ1, t1, rfl⟩, h3, h5, h6⟩
  · have hfb := f_bd hP hL hp
    have g181 : τ1 181 = σ 181 := by rw [← h181]; exact funext fun j => h6 181 j (by omega) (by omega)
    have g182 : τ1 182 = σ 182 := by rw [← h182]; exact funext fun j => h6 182 j (by omega) (by omega)
    have hpass : m_X12_passes a τ1 = some (1, up τ1 212 a (f p' : Int)) := by
      rw [m_X12_passes, rd_ok (by omega) (by omega), bnd_s, Int.toNat_natCast, h5, rd_ok (by omega) (by omega), bnd_s, show ((f p : Int) + 1).toNat = f p + 1 by omega, g181, e1, if_neg (by decide), if_pos rfl, rd_ok (by omega) (by omega), bnd_s, show ((f p : Int) + 1).toNat = f p + 1 by omega, g182, e2, wt_ok (by omega) (by omega), bnd_s, Int.toNat_natCast]
    have g211 : τ1 211 a = 0 := (h6 211 a (by omega) (by omega)).trans h211
    refine ⟨2, up τ1 212 a (f p' : Int), by omega, ⟨τ1, t1, up τ1 212 a (f p' : Int), turn_past ha g211 hpass, rfl⟩, ?_, up_eq .., ?_⟩
    · exact FrM_cg h3 (up_cell (by omega)) (funext fun j => up_cell (by omega)) (funext fun j => up_cell (by omega))
    · intro k j n1 n2
      by_cases hk : k = 212
      · subst hk
        rw [up_slot (by omega)]
        exact h6 _ _ n1 n2
      · rw [up_cell hk]; exact h6 _ _ n1 n2
