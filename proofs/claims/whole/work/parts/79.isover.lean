/-! isOver: how both sides stand behind it -/
theorem Rch_app {α β : Type} {f : α → Option (α ⊕ β)} {b c : α} {m : Nat} (h2 : Rch f m b c) : ∀ (k : Nat) (a : α), Rch f k a b → Rch f (k + m) a c := by
  intro k
  induction k with
  | zero => intro a h; have h' : a = b := h; rw [h', Nat.zero_add]; exact h2
  | succ k ih =>
    rintro a ⟨a', h1, h3⟩
    rw [show k + 1 + m = k + m + 1 by omega]
    exact ⟨a', h1, ih a' h3⟩
/-- the agent's code has come to its end on both sides -/
def OvE (a : Nat) (τ τm τ' τm' : St) : Prop := τ' (39 + 7 * a) 18 = τ 129 12 ∧ τm' 211 a = 4 ∧ τm' 208 a = τm 170 71
/-- what isOver answers, with the model's turns that belong to it -/
def OvR (σ : St) (n a A : Nat) (f : Nat → Nat) (cx : Nat → List Bool) (cd : Nat → Nat) (τ τm : St) (p : Nat) (q : Int × St) : Prop :=
  ∃ k τm', k ≤ 1024 ∧ Rch (m_X12_turn_L181 a) k τm τm' ∧ OvC a τ q.2 ∧ OvM a τm τm' ∧
    ((q.1 = 0 ∧ ∃ p' l', p ≤ p' ∧ AtS σ n a A f cx cd q.2 τm' p' l' ∧ Stay σ 22 p' l' ∧ τm' 208 a = τm 208 a) ∨ (q.1 = 1 ∧ OvE a τ τm q.2 τm'))
def OvP (σ : St) (n a A : Nat) (f : Nat → Nat) (cx : Nat → List Bool) (cd : Nat → Nat) (τ τm : St) (p : Nat) (m : Nat) (st : Int × St) : Prop :=
  ∃ x k : Nat, ∃ τm', st.1 = (x : Int) ∧ x ≤ 512 ∧ Rch (m_X12_turn_L181 a) k τm τm' ∧ OvC a τ st.2 ∧ OvM a τm τm' ∧
    ((k ≤ 1024 ∧ m = 0 ∧ OvE a τ τm st.2 τm') ∨ (∃ p' l', m = n - p' ∧ x ≤ p' ∧ k ≤ 2 * p' ∧ p ≤ p' ∧ AtS σ n a A f cx cd st.2 τm' p' l' ∧ τm' 208 a = τm 208 a))
theorem isover_sp {σ τ τm : St} {L n c a p A : Nat} {f : Nat → Nat} {cx : Nat → List Bool} {cd : Nat → Nat} {l : List (Nat × Nat)} (hP : PgT σ 22 L n c f cx cd) (hL : L < 2) (h7 : τ 22 7 = (n : Int)) (h23 : τ 23 = σ 23) (h27 : τ 27 = σ 27) (h181 : τm 181 = σ 181) (h182 : τm 182 = σ 182) (ha : a < 8) (hnow : 0 ≤ τ 129 12) (hAt : AtS σ n a A f cx cd τ τm p l) :
    Hp (m_X8_isOver (39 + 7 * a) τ) (OvR σ n a A f cx cd τ τm p) := by
  have hn := hP.1.1
  rw [m_X8_isOver, Hp_bind]
  refine Hp_lp (fun m (st : Int × St) => OvP σ n a A f cx cd τ τm p m st) (n := n - p) ?_ (by omega) ?_
  · exact ⟨0, 0, τm, rfl, by omega, rfl, fun k j _ _ => rfl, fun k j _ => rfl, Or.inr ⟨p, l, rfl, by omega, by omega, Nat.le_refl _, hAt, rfl⟩⟩
  · rintro m ⟨x2, σ3⟩ ⟨x, k, τm', hx, hxb, hR, hC, hM, h⟩
    simp only at hx hC
    subst hx
    show Hp (m_X8_isOver_L2 (39 + 7 * a) (x : Int) σ3) _
    rw [m_X8_isOver_L2, if_neg (show ¬ (1000 : Int) ≤ (x : Int) by omega)]
    rcases h with ⟨hk, hm, hE⟩ | ⟨p', l', hm, hxp, hk, hpp, hA, h208⟩
    · have he : σ3 (39 + 7 * a) 18 ≠ -1 := by
        have := hE.1
        simp only at this
        omega
      rw [if_neg he, Hp_some]
      show Hp (some ((1 : Int), σ3)) (OvR σ n a A f cx cd τ τm p)
      rw [Hp_some]
      exact ⟨k, τm', by omega, hR, hC, hM, Or.inr ⟨rfl, hE⟩⟩
    · have hA' := hA
      obtain ⟨hp', c4, m4, cF, mF, c18, m211, d, hS⟩ := hA'
      simp only at c4 cF c18
      have g7 : σ3 22 7 = (n : Int) := (hC 22 7 (by omega) (by omega)).trans h7
      have g23 : σ3 23 = σ 23 := by rw [← h23]; exact funext fun j => hC 23 j (by omega) (by omega)
      have g27 : σ3 27 = σ 27 := by rw [← h27]; exact funext fun j => hC 27 j (by omega) (by omega)
      have g181 : τm' 181 = σ 181 := by rw [← h181]; exact funext fun j => hM 181 j (by omega)
      have g182 : τm' 182 = σ 182 := by rw [← h182]; exact funext fun j => hM 182 j (by omega)
      rw [if_pos c18, Hp_bind]
      refine Hp_mono (pass_c hP g7 g23 g27 ha hp' c4 cF hS) ?_
      rintro ⟨y, τ1⟩ (⟨e1, e2, hSt⟩ | ⟨e1, e2, e3, e4⟩ | ⟨e1, p1, l1, hN, n4, nF, nO⟩)
      · simp only at e1 e2
        subst e1; subst e2
        simp only
        rw [if_pos trivial, Hp_some]
        show Hp (some ((0 : Int), τ1)) (OvR σ n a A f cx cd τ τm p)
        rw [Hp_some]
        exact ⟨k, τm', by omega, hR, hC, hM, Or.inl ⟨rfl, p', l', hpp, hA, hSt, h208⟩⟩
      · simp only at e1 e2 e4
        subst e1; subst e4
        simp only
        rw [if_neg (show ¬ ((1 : Int) = 0) by decide), Hp_some]
        have hps := (pass_m hP hL g181 g182 ha hp' m4 mF hS).2.1 e2 e3
        refine ⟨0, by omega, x + 1, k + 1, up (up τm' 211 a 4) 208 a (τm' 170 71), ?_, by omega, Rch_snoc (turn_past ha m211 hps) k τm hR, ?_, ?_, Or.inl ⟨by omega, rfl, ?_, ?_, ?_⟩⟩
        · simp only
          rw [wr_id' (by omega) (by omega)]; omega
        · intro k j n1 n2
          simp only
          by_cases hk : k = 39 + 7 * a
          · subst hk
            rw [up_slot (by omega)]; exact hC _ _ n1 n2
          · rw [up_cell hk]; exact hC _ _ n1 n2
        · intro k j n1
          by_cases hj : j = a
          · rw [up_cell (by omega), up_cell (by omega)]; exact hM _ _ n1
          · rw [up_slot hj, up_slot hj]; exact hM _ _ n1
        · simp only
          rw [up_eq]; exact hC 129 12 (by omega) (by omega)
        · rw [up_cell (by decide), up_eq]
        · rw [up_eq]; exact hM 170 71 (by omega)
      · simp only at e1 n4 nF nO
        subst e1
        simp only
        rw [if_neg (show ¬ ((1 : Int) = 0) by decide), Hp_some]
        obtain ⟨k2, τ2, hk2, hR2, mF2, m42, mO⟩ := past_m hP hL g181 g182 ha hp' m4 mF hS m211 hN
        obtain ⟨hlt, hp1, d', hS'⟩ := past_ok hP hp' hS hN
        refine ⟨n - p1, by omega, x + 1, k + k2, τ2, ?_, by omega, Rch_app hR2 k τm hR, ?_, ?_, Or.inr ⟨p1, l1, rfl, by omega, by omega, by omega, ⟨hp1, n4, m42, nF, mF2, ?_, ?_, d', hS'⟩, ?_⟩⟩
        · simp only
          rw [wr_id' (by omega) (by omega)]; omega
        · intro k j n1 n2
          simp only
          exact (nO k j (by omega) n2).trans (hC k j n1 n2)
        · intro k j n1
          exact (mO k j (by omega) (by omega)).trans (hM k j n1)
        · exact (nO _ _ (by omega) (by omega)).trans c18
        · exact (mO _ _ (by omega) (by omega)).trans m211
        · exact (mO _ _ (by omega) (by omega)).trans h208
