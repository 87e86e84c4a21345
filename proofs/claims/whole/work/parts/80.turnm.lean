/-! a turn of the model's loop where no end is gone past -/
theorem turn_deed {τ : St} {a k e : Nat} (ha : a < 8) (h : τ 211 a = 0) (hp : m_X12_passes a τ = some (0, τ)) (hk : τ 170 72 = (k : Int)) (hk4 : k < 40) (h9 : τ 209 a = (e : Int)) (he : e < 100000) :
    m_X12_turn_L181 a τ = (m_X12_deed a (up (up τ 170 72 ((k + 1 : Nat) : Int)) 209 a ((e + 1 : Nat) : Int))).bind fun s => some (.inl s) := by
  have e1 : wr ((k : Int) + 1) = ((k + 1 : Nat) : Int) := by rw [wr_id' (by omega) (by omega)]; omega
  have e2 : wr ((e : Int) + 1) = ((e + 1 : Nat) : Int) := by rw [wr_id' (by omega) (by omega)]; omega
  have e3 : rd (up τ 170 72 ((k + 1 : Nat) : Int)) 209 8 (a : Int) = some (e : Int) := by
    rw [rd_ok (by omega) (by omega), Int.toNat_natCast, up_cell (by decide), h9]
  have e4 : ∀ x, wt (up τ 170 72 ((k + 1 : Nat) : Int)) 209 8 (a : Int) x = some (up (up τ 170 72 ((k + 1 : Nat) : Int)) 209 a x) := by
    intro x
    rw [wt_ok (by omega) (by omega), Int.toNat_natCast]
  rw [m_X12_turn_L181, rd_ok (by omega) (by omega), bnd_s, Int.toNat_natCast, h, if_pos rfl, hp, bnd_s]
  show (if (0 : Int) = 0 then (if τ 170 72 = 40 then some (.inr (.inr τ)) else (pt τ 170 72 (wr (τ 170 72 + 1))).bind fun σ49 => (rd σ49 209 8 a).bind fun x50 => (wt σ49 209 8 a (wr (x50 + 1))).bind fun σ51 => (m_X12_deed a σ51).bind fun σ52 => some (.inl σ52)) else some (.inl τ) : Option (St ⊕ (St ⊕ St))) = _
  rw [if_pos rfl, hk, if_neg (show ¬ ((k : Int) = 40) by omega), e1, pt_s, bnd_s, e3, bnd_s, e2, e4, bnd_s]
theorem turn_full {τ : St} {a : Nat} (ha : a < 8) (h : τ 211 a = 0) (hp : m_X12_passes a τ = some (0, τ)) (hk : τ 170 72 = 40) : m_X12_turn_L181 a τ = some (.inr (.inr τ)) := by
  rw [m_X12_turn_L181, rd_ok (by omega) (by omega), bnd_s, Int.toNat_natCast, h, if_pos rfl, hp, bnd_s]
  exact (if_pos (rfl : (0 : Int) = 0)).trans (if_pos hk)
theorem turn_out {τ : St} {a : Nat} (ha : a < 8) (h : τ 211 a ≠ 0) : m_X12_turn_L181 a τ = some (.inr (.inl τ)) := by
  rw [m_X12_turn_L181, rd_ok (by omega) (by omega), bnd_s, Int.toNat_natCast, if_neg h]
