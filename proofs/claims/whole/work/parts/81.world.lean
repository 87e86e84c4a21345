/-! THE WORLD OF A RUN: class's state τ and model's τm side by side; ρ: what both began with (class cells below 170, the model's above, and behind 1000 what either finds in the cells of the other) -/
def mc (k : Nat) : Nat := if 170 ≤ k ∧ k < 1000 then k else 2 * k + 2000
def cc (k : Nat) : Nat := if k < 170 then k else 2 * k + 2001
def RunC (k j : Nat) : Prop := (39 ≤ k ∧ k ≤ 94 ∧ ((3 < j ∧ j ≤ 18) ∨ (k - 39) % 7 ≠ 0)) ∨ (130 ≤ k ∧ k ≤ 152) ∨ (k = 129 ∧ (j = 6 ∨ j = 12 ∨ j = 13))
def RunM (k j : Nat) : Prop := (201 ≤ k ∧ k ≤ 220) ∨ (k = 170 ∧ (j = 58 ∨ j = 60 ∨ j = 71 ∨ j = 72))
def FrW (ρ τ τm : St) : Prop := (∀ k j, ¬ RunC k j → τ k j = ρ (cc k) j) ∧ ∀ k j, ¬ RunM k j → τm k j = ρ (mc k) j
/-- what stands fast during a run: A agents, N steps -/
def Base (ρ : St) (A N : Nat) (f : Nat → Nat) (cx : Nat → List Bool) (cd : Nat → Nat) : Prop :=
  (iTown ρ ∧ iNear ρ ∧ iAg ρ) ∧ (ρ 0 6 = (A : Int) ∧ A ≤ 8 ∧ ρ 129 0 = 1 ∧ ρ 129 1 = (A : Int) ∧ ρ 170 48 = (A : Int)) ∧
  (∃ L c : Nat, L < 2 ∧ ρ 170 17 = (L : Int) ∧ ρ 22 7 = (N : Int) ∧ ρ 22 8 = (c : Int) ∧ PgT ρ 22 L N c f cx cd) ∧
  (∀ t s : Nat, t < 96 → s < 10 → Bb (ρ 200 (96 * s + t)) (tb (ρ 37 t) s = true)) ∧
  isDir (Edge ρ (ρ 1 5)) (fun a b => ρ 193 (10 * a + b)) ∧ ∀ x y, x < 10 → y < 10 → ρ 194 (10 * x + y) = nM ρ x y
/-- the counters, and what was seen -/
def rCt (t : Nat) (τ τm : St) : Prop := (τ 129 12 = (t : Int) ∧ τm 170 71 = (t : Int) ∧ t < 96) ∧ τ 129 13 = τm 170 60
def rSw (m : Nat) (τ τm : St) : Prop := (∃ e : Nat, τ 129 6 = (e : Int) ∧ e ≤ m) ∧ τm 170 58 = τ 129 6 ∧ ∀ i : Nat, (i : Int) < τ 129 6 → τm 210 i = τ 141 i
/-- who learned what, when and from whom -/
def rKn (A : Nat) (τ τm : St) : Prop := ∃ rk : Nat → Nat → Nat, ∀ b i : Nat, b < A → i < 8 → (τm 202 (8 * b + i) = τ (44 + 7 * b) i ∧ τm 203 (8 * b + i) = τ (45 + 7 * b) i) ∧
  (τm 203 (8 * b + i) = -1 ∨ ∃ e : Nat, e < A ∧ τm 203 (8 * b + i) = (e : Int) ∧ rk e i < rk b i ∧ τm 202 (8 * e + i) ≠ -1) ∧ (τm 202 (8 * b + i) = -1 → τm 203 (8 * b + i) = -1)
/-- the papers that agents have -/
def rPa (A : Nat) (τ τm : St) : Prop := ∀ b : Nat, b < A → τm 204 b = τ (39 + 7 * b) 16 ∧ (0 ≤ τm 204 b ∧ τm 204 b < 256) ∧ ∀ i : Nat, i < 8 → tb (τm 204 b) i = true → τm 202 (8 * b + i) ≠ -1
/-- the marks -/
def rMk (τ τm : St) : Prop := ∀ s : Nat, s < 10 → τm 205 s = τ 130 s ∧ 0 ≤ τ 130 s ∧ τ 130 s < 16
/-- the papers that lie at spots -/
def rLi (A : Nat) (τ τm : St) : Prop := ∀ s : Nat, s < 10 → (0 ≤ τ 131 s ∧ τ 131 s < 256) ∧ ∀ i : Nat, i < 8 → (τm 206 (8 * s + i) ≠ -1 ↔ tb (τ 131 s) i = true) ∧ (τm 206 (8 * s + i) ≠ -1 → ∃ e : Nat, e < A ∧ τm 206 (8 * s + i) = (e : Int) ∧ τ (143 + s) i = (e : Int) ∧ τm 202 (8 * e + i) ≠ -1)
/-- who met whom -/
def rMe (A : Nat) (τ τm : St) : Prop := ∀ b : Nat, b < A → τm 207 (8 * b + b) = -1 ∧ ∀ e : Nat, e < A → τm 207 (8 * b + e) = τ (133 + b) e
/-- the places, of the ticks below h -/
def rPl (A h : Nat) (τ τm : St) : Prop := (∀ b t' : Nat, b < A → t' < h → τm 201 (96 * b + t') = τ (43 + 7 * b) t') ∧ ∀ b : Nat, A ≤ b → b < 8 → τ (39 + 7 * b) 6 = -1 ∧ ∀ t' : Nat, t' < 96 → τ (43 + 7 * b) t' = -1
/-- how an agent stands; H s: where it is at spot s; K s: on its way to s; C s: come to s on its way -/
def AgG (ρ : St) (A N : Nat) (f : Nat → Nat) (cx : Nat → List Bool) (cd : Nat → Nat) (t : Int) (H K C : Nat → Prop) (b : Nat) (τ τm : St) : Prop :=
  ∃ s : Nat, (τm 213 b = (s : Int) ∧ (s : Int) < ρ 1 4) ∧ (τm 208 b = τ (39 + 7 * b) 18 ∧ τm 209 b = τ (39 + 7 * b) 17) ∧
   ((τm 211 b = 4 ∧ τ (39 + 7 * b) 18 ≠ -1 ∧ (τ (39 + 7 * b) 6 = -1 ∧ τ (39 + 7 * b) 8 = -1) ∧ (τ (39 + 7 * b) 9 = (s : Int) ∧ τ (39 + 7 * b) 10 = -1 ∧ τ (39 + 7 * b) 12 = -1 ∧ H s)) ∨
    (τ (39 + 7 * b) 18 = -1 ∧ ∃ p l, (p < N ∧ τ (39 + 7 * b) 4 = (p : Int) ∧ τm 212 b = (f p : Int)) ∧ (FrC τ b l ∧ FrM f τm b l ∧ ∃ d, Stk A N cx cd (d + 1) p l) ∧
     ((τm 211 b = 0 ∧ τ (39 + 7 * b) 5 ≤ t ∧ (τ (39 + 7 * b) 6 = -1 ∧ τ (39 + 7 * b) 8 = -1) ∧ (τ (39 + 7 * b) 9 = (s : Int) ∧ τ (39 + 7 * b) 10 = -1 ∧ τ (39 + 7 * b) 12 = -1 ∧ H s)) ∨
      (τm 211 b = 1 ∧ τ (39 + 7 * b) 5 = τm 216 b ∧ (τ (39 + 7 * b) 6 = -1 ∧ τ (39 + 7 * b) 8 = -1) ∧ (τ (39 + 7 * b) 9 = (s : Int) ∧ τ (39 + 7 * b) 10 = -1 ∧ τ (39 + 7 * b) 12 = -1 ∧ H s)) ∨
      (τm 211 b = 2 ∧ τ (39 + 7 * b) 5 ≤ t ∧ (τ (39 + 7 * b) 6 = τm 217 b ∧ τ (39 + 7 * b) 7 = τm 216 b ∧ τ (39 + 7 * b) 8 = -1 ∧ ρ 23 p = 15 ∧ ρ 24 p = τm 217 b) ∧ (τ (39 + 7 * b) 9 = (s : Int) ∧ τ (39 + 7 * b) 10 = -1 ∧ τ (39 + 7 * b) 12 = -1 ∧ H s)) ∨
      (τm 211 b = 3 ∧ τ (39 + 7 * b) 5 ≤ t ∧ (τ (39 + 7 * b) 6 = -1 ∧ ρ 23 p = 15 ∧ ∃ v : Nat, v < A ∧ τ (39 + 7 * b) 8 = (v : Int) ∧ τm 217 b = (v : Int)) ∧ (τ (39 + 7 * b) 9 = (s : Int) ∧ τ (39 + 7 * b) 10 = -1 ∧ τ (39 + 7 * b) 12 = -1 ∧ H s)) ∨
      (τm 211 b = 5 ∧ τ (39 + 7 * b) 5 ≤ t ∧ (τ (39 + 7 * b) 6 = -1 ∧ τ (39 + 7 * b) 8 = -1) ∧ (∃ g : Nat, (g : Int) < ρ 1 4 ∧ τ (39 + 7 * b) 12 = (g : Int) ∧ τm 215 b = (g : Int) ∧ nM ρ s g < 1000) ∧
        ((τ (39 + 7 * b) 10 = (s : Int) ∧ τ (39 + 7 * b) 11 = τm 214 b ∧ K s) ∨ (τ (39 + 7 * b) 10 = -1 ∧ τ (39 + 7 * b) 9 = (s : Int) ∧ C s))))))
/-- in tick t, where the agents from j on have their turn ahead -/
def AgB (ρ : St) (A N : Nat) (f : Nat → Nat) (cx : Nat → List Bool) (cd : Nat → Nat) (t j : Nat) (b : Nat) (τ τm : St) : Prop :=
  AgG ρ A N f cx cd (t : Int) (fun s => τm 201 (96 * b + t) = (s : Int)) (fun _ => j ≤ b → (t : Int) < τm 214 b ∧ τm 201 (96 * b + t) = -1) (fun s => j ≤ b ∧ τm 201 (96 * b + t) = (s : Int)) b τ τm
/-- no two wait for each other at one spot; q: whom one looks at -/
def rTwo (A : Nat) (q : Nat → Prop) (τm : St) : Prop := ∀ b e : Nat, b < A → e < A → q b → q e → b ≠ e → τm 211 b = 2 → τm 211 e = 2 → τm 217 b = (e : Int) → τm 217 e = (b : Int) → τm 213 b ≠ τm 213 e
/-- all things but the agents that q leaves out -/
def Wld (ρ : St) (A N : Nat) (f : Nat → Nat) (cx : Nat → List Bool) (cd : Nat → Nat) (t j : Nat) (q : Nat → Prop) (τ τm : St) : Prop :=
  (FrW ρ τ τm ∧ rCt t τ τm ∧ rSw (8 * (t + 1)) τ τm) ∧ (rKn A τ τm ∧ rPa A τ τm ∧ rMk τ τm ∧ rLi A τ τm ∧ rMe A τ τm ∧ rPl A (t + 1) τ τm) ∧ (∀ b, b < A → q b → AgB ρ A N f cx cd t j b τ τm) ∧ rTwo A q τm
/-- the changes that a deed makes to agent a alone -/
def LocC (a : Nat) (τ τ' : St) : Prop := ∀ k j, ¬ (k = 39 + 7 * a ∧ ((4 ≤ j ∧ j ≤ 12) ∨ j = 17 ∨ j = 18)) → ¬ (k = 40 + 7 * a ∧ j = 2) → k ≠ 41 + 7 * a → k ≠ 42 + 7 * a → τ' k j = τ k j
def LocM (a : Nat) (τ τ' : St) : Prop := ∀ k j, ¬ ((k = 208 ∨ k = 209 ∨ (211 ≤ k ∧ k ≤ 218)) ∧ j = a) → ¬ ((k = 219 ∨ k = 220) ∧ 64 * a ≤ j ∧ j < 64 * a + 64) → ¬ (k = 170 ∧ j = 72) → τ' k j = τ k j
theorem LocC_rf {a : Nat} {τ : St} : LocC a τ τ := fun _ _ _ _ _ _ => rfl
theorem LocM_rf {a : Nat} {τ : St} : LocM a τ τ := fun _ _ _ _ _ => rfl
theorem LocC_tr {a : Nat} {τ τ1 τ2 : St} (h1 : LocC a τ τ1) (h2 : LocC a τ1 τ2) : LocC a τ τ2 := fun k j n1 n2 n3 n4 => (h2 k j n1 n2 n3 n4).trans (h1 k j n1 n2 n3 n4)
theorem LocM_tr {a : Nat} {τ τ1 τ2 : St} (h1 : LocM a τ τ1) (h2 : LocM a τ1 τ2) : LocM a τ τ2 := fun k j n1 n2 n3 => (h2 k j n1 n2 n3).trans (h1 k j n1 n2 n3)
theorem LocC_up {a i : Nat} {τ τ' : St} {x : Int} (h : LocC a τ τ') (hi : (4 ≤ i ∧ i ≤ 12) ∨ i = 17 ∨ i = 18) : LocC a τ (up τ' (39 + 7 * a) i x) := fun k j n1 n2 n3 n4 => by
  by_cases hk : k = 39 + 7 * a
  · subst hk
    rw [up_slot (by omega)]; exact h _ _ n1 n2 n3 n4
  · rw [up_cell hk]; exact h _ _ n1 n2 n3 n4
theorem LocM_up {a c : Nat} {τ τ' : St} {x : Int} (h : LocM a τ τ') (hc : c = 208 ∨ c = 209 ∨ (211 ≤ c ∧ c ≤ 218)) : LocM a τ (up τ' c a x) := fun k j n1 n2 n3 => by
  by_cases hk : k = c
  · subst hk
    rw [up_slot (by omega)]; exact h _ _ n1 n2 n3
  · rw [up_cell hk]; exact h _ _ n1 n2 n3
theorem LocM_72 {a : Nat} {τ τ' : St} {x : Int} (h : LocM a τ τ') : LocM a τ (up τ' 170 72 x) := fun k j n1 n2 n3 => by
  by_cases hk : k = 170
  · subst hk
    rw [up_slot (by omega)]; exact h _ _ n1 n2 n3
  · rw [up_cell hk]; exact h _ _ n1 n2 n3
theorem OvC_loc {a : Nat} {τ τ' : St} (h : OvC a τ τ') : LocC a τ τ' := fun k j n1 n2 n3 n4 => h k j (by omega) n2
theorem OvM_loc {a : Nat} {τ τ' : St} (h : OvM a τ τ') : LocM a τ τ' := fun k j n1 n2 n3 => h k j (by omega)
theorem FrC_cg {τ τ' : St} {a : Nat} {l : List (Nat × Nat)} (h : FrC τ a l) (h1 : τ' (40 + 7 * a) 2 = τ (40 + 7 * a) 2) (h2 : τ' (41 + 7 * a) = τ (41 + 7 * a)) (h3 : τ' (42 + 7 * a) = τ (42 + 7 * a)) : FrC τ' a l := by
  obtain ⟨k1, k2, k3⟩ := h
  refine ⟨h1.trans k1, k2, ?_⟩
  rw [h2, h3]
  exact k3
theorem FrM_cg2 {f : Nat → Nat} {τ τ' : St} {a : Nat} {l : List (Nat × Nat)} (h : FrM f τ a l) (h1 : τ' 218 a = τ 218 a) (h2 : ∀ j, 64 * a ≤ j → j < 64 * a + 64 → τ' 219 j = τ 219 j ∧ τ' 220 j = τ 220 j) : FrM f τ' a l := by
  obtain ⟨k1, k2, k3⟩ := h
  refine ⟨h1.trans k1, k2, ?_⟩
  intro i e he
  have hi := get_lt he
  have g := h2 (64 * a + (l.length - 1 - i)) (by omega) (by omega)
  rw [g.1, g.2]
  exact k3 i e he
theorem AgG_cg {ρ : St} {A N : Nat} {f : Nat → Nat} {cx : Nat → List Bool} {cd : Nat → Nat} {t t' : Int} {H K C H' K' C' : Nat → Prop} {b : Nat} {τ τm τ' τm' : St} (h : AgG ρ A N f cx cd t H K C b τ τm) (ht : t ≤ t')
    (h1 : ∀ i, i ≠ 16 → τ' (39 + 7 * b) i = τ (39 + 7 * b) i) (h2 : τ' (40 + 7 * b) 2 = τ (40 + 7 * b) 2) (h3 : τ' (41 + 7 * b) = τ (41 + 7 * b)) (h4 : τ' (42 + 7 * b) = τ (42 + 7 * b))
    (h5 : ∀ k, 208 ≤ k → k ≤ 218 → k ≠ 210 → τm' k b = τm k b) (h6 : ∀ j, 64 * b ≤ j → j < 64 * b + 64 → τm' 219 j = τm 219 j ∧ τm' 220 j = τm 220 j)
    (hH : ∀ s, H s → H' s) (hK : ∀ s, K s → K' s) (hC : ∀ s, C s → C' s) : AgG ρ A N f cx cd t' H' K' C' b τ' τm' := by
  obtain ⟨s, ⟨q1, q2⟩, ⟨q3, q4⟩, h⟩ := h
  refine ⟨s, ⟨?_, q2⟩, ⟨?_, ?_⟩, ?_⟩
  · rw [h5 213 (by omega) (by omega) (by omega)]; exact q1
  · rw [h5 208 (by omega) (by omega) (by omega), h1 18 (by omega)]; exact q3
  · rw [h5 209 (by omega) (by omega) (by omega), h1 17 (by omega)]; exact q4
  · rw [h1 18 (by omega), h1 4 (by omega), h1 5 (by omega), h1 6 (by omega), h1 7 (by omega), h1 8 (by omega), h1 9 (by omega), h1 10 (by omega), h1 11 (by omega), h1 12 (by omega), h5 211 (by omega) (by omega) (by omega), h5 212 (by omega) (by omega) (by omega), h5 214 (by omega) (by omega) (by omega), h5 215 (by omega) (by omega) (by omega), h5 216 (by omega) (by omega) (by omega), h5 217 (by omega) (by omega) (by omega)]
    rcases h with ⟨e1, e2, e3, e4, e5, e6, e7⟩ | ⟨e1, p, l, e2, ⟨e3, e4, e5⟩, h⟩
    · exact Or.inl ⟨e1, e2, e3, e4, e5, e6, hH s e7⟩
    · refine Or.inr ⟨e1, p, l, e2, ⟨FrC_cg e3 h2 h3 h4, FrM_cg2 e4 (h5 218 (by omega) (by omega) (by omega)) h6, e5⟩, ?_⟩
      rcases h with ⟨m, r, x, g1, g2, g3, g4⟩ | ⟨m, r, x, g1, g2, g3, g4⟩ | ⟨m, r, x, g1, g2, g3, g4⟩ | ⟨m, r, x, g1, g2, g3, g4⟩ | ⟨m, r, x, y, h⟩
      · exact Or.inl ⟨m, Int.le_trans r ht, x, g1, g2, g3, hH s g4⟩
      · exact Or.inr (Or.inl ⟨m, r, x, g1, g2, g3, hH s g4⟩)
      · exact Or.inr (Or.inr (Or.inl ⟨m, Int.le_trans r ht, x, g1, g2, g3, hH s g4⟩))
      · exact Or.inr (Or.inr (Or.inr (Or.inl ⟨m, Int.le_trans r ht, x, g1, g2, g3, hH s g4⟩)))
      · refine Or.inr (Or.inr (Or.inr (Or.inr ⟨m, Int.le_trans r ht, x, y, ?_⟩)))
        rcases h with ⟨g1, g2, g3⟩ | ⟨g1, g2, g3⟩
        · exact Or.inl ⟨g1, g2, hK s g3⟩
        · exact Or.inr ⟨g1, g2, hC s g3⟩
/-- where nothing of agent b's own is written -/
theorem AgB_cg {ρ : St} {A N : Nat} {f : Nat → Nat} {cx : Nat → List Bool} {cd : Nat → Nat} {t j b : Nat} {τ τm τ' τm' : St} (h : AgB ρ A N f cx cd t j b τ τm)
    (h1 : ∀ i, i ≠ 16 → τ' (39 + 7 * b) i = τ (39 + 7 * b) i) (h2 : τ' (40 + 7 * b) 2 = τ (40 + 7 * b) 2) (h3 : τ' (41 + 7 * b) = τ (41 + 7 * b)) (h4 : τ' (42 + 7 * b) = τ (42 + 7 * b))
    (h5 : ∀ k, 208 ≤ k → k ≤ 218 → k ≠ 210 → τm' k b = τm k b) (h6 : ∀ j, 64 * b ≤ j → j < 64 * b + 64 → τm' 219 j = τm 219 j ∧ τm' 220 j = τm 220 j) (h7 : τm' 201 (96 * b + t) = τm 201 (96 * b + t)) : AgB ρ A N f cx cd t j b τ' τm' := by
  refine AgG_cg h (Int.le_refl _) h1 h2 h3 h4 h5 h6 ?_ ?_ ?_
  · intro s q; rw [h7]; exact q
  · intro s q w; rw [h7, h5 214 (by omega) (by omega) (by omega)]; exact q w
  · intro s q; rw [h7]; exact q
theorem Wld_loc {ρ : St} {A N : Nat} {f : Nat → Nat} {cx : Nat → List Bool} {cd : Nat → Nat} {t j a : Nat} {τ τm τ' τm' : St} (ha : a < A) (hA : A ≤ 8) (h : Wld ρ A N f cx cd t j (fun b => b ≠ a) τ τm) (hC : LocC a τ τ') (hM : LocM a τm τm') : Wld ρ A N f cx cd t j (fun b => b ≠ a) τ' τm' := by
  obtain ⟨⟨⟨w1, w2⟩, ⟨w3, w4⟩, w5, w6, w7⟩, ⟨⟨rk, w8⟩, w9, w10, w11, w12, w13, w14⟩, w15, w16⟩ := h
  have c1 : ∀ i, τ' 129 i = τ 129 i := fun i => hC 129 i (by omega) (by omega) (by omega) (by omega)
  have c2 : ∀ k i, 129 ≤ k → τ' k i = τ k i := fun k i hk => hC k i (by omega) (by omega) (by omega) (by omega)
  have m2 : ∀ k i, (k ≤ 207 ∧ k ≠ 170) ∨ k = 210 → τm' k i = τm k i := fun k i hk => hM k i (by omega) (by omega) (by omega)
  have m3 : ∀ i, i ≠ 72 → τm' 170 i = τm 170 i := fun i hi => hM 170 i (by omega) (by omega) (by omega)
  refine ⟨⟨⟨?_, ?_⟩, ⟨?_, ?_⟩, ?_, ?_, ?_⟩, ⟨⟨rk, ?_⟩, ?_, ?_, ?_, ?_, ?_, ?_⟩, ?_, ?_⟩
  · intro k i hr
    rw [hC k i (by unfold RunC at hr; omega) (by unfold RunC at hr; omega) (by unfold RunC at hr; omega) (by unfold RunC at hr; omega)]; exact w1 k i hr
  · intro k i hr
    rw [hM k i (by unfold RunM at hr; omega) (by unfold RunM at hr; omega) (by unfold RunM at hr; omega)]; exact w2 k i hr
  · rw [c1, m3 71 (by omega)]; exact w3
  · rw [c1, m3 60 (by omega)]; exact w4
  · rw [c1]; exact w5
  · rw [c1, m3 58 (by omega)]; exact w6
  · rw [c1]; intro i hi; rw [c2 141 i (by omega), m2 210 i (by omega)]; exact w7 i hi
  · intro b i hb hi
    obtain ⟨⟨g1, g2⟩, g3, g4⟩ := w8 b i hb hi
    rw [m2 202 _ (by omega), m2 203 _ (by omega), hC (44 + 7 * b) i (by omega) (by omega) (by omega) (by omega), hC (45 + 7 * b) i (by omega) (by omega) (by omega) (by omega)]
    refine ⟨⟨g1, g2⟩, ?_, g4⟩
    rcases g3 with g3 | ⟨e, e1, e2, e3, e4⟩
    · exact Or.inl g3
    · exact Or.inr ⟨e, e1, e2, e3, by rw [m2 202 _ (by omega)]; exact e4⟩
  · intro b hb
    rw [m2 204 _ (by omega), hC (39 + 7 * b) 16 (by omega) (by omega) (by omega) (by omega)]
    obtain ⟨g1, g2, g3⟩ := w9 b hb
    exact ⟨g1, g2, fun i hi q => by rw [m2 202 _ (by omega)]; exact g3 i hi q⟩
  · intro s hs
    rw [m2 205 _ (by omega), c2 130 _ (by omega)]; exact w10 s hs
  · intro s hs
    obtain ⟨g1, g2⟩ := w11 s hs
    rw [c2 131 _ (by omega)]
    refine ⟨g1, fun i hi => ?_⟩
    obtain ⟨g3, g4⟩ := g2 i hi
    rw [m2 206 _ (by omega), c2 (143 + s) _ (by omega)]
    refine ⟨g3, fun q => ?_⟩
    obtain ⟨e, e1, e2, e3, e4⟩ := g4 q
    exact ⟨e, e1, e2, e3, by rw [m2 202 _ (by omega)]; exact e4⟩
  · intro b hb
    obtain ⟨g1, g2⟩ := w12 b hb
    refine ⟨by rw [m2 207 _ (by omega)]; exact g1, fun e he => ?_⟩
    rw [m2 207 _ (by omega), c2 (133 + b) _ (by omega)]; exact g2 e he
  · intro b t' hb ht'
    rw [m2 201 _ (by omega), hC (43 + 7 * b) t' (by omega) (by omega) (by omega) (by omega)]; exact w13 b t' hb ht'
  · intro b hb hb8
    obtain ⟨g1, g2⟩ := w14 b hb hb8
    refine ⟨by rw [hC (39 + 7 * b) 6 (by omega) (by omega) (by omega) (by omega)]; exact g1, fun t' ht' => ?_⟩
    rw [hC (43 + 7 * b) t' (by omega) (by omega) (by omega) (by omega)]; exact g2 t' ht'
  · intro b hb hba
    have hba' : b ≠ a := hba
    refine AgB_cg (w15 b hb hba) ?_ ?_ ?_ ?_ ?_ ?_ ?_
    · intro i hi; exact hC _ _ (by omega) (by omega) (by omega) (by omega)
    · exact hC _ _ (by omega) (by omega) (by omega) (by omega)
    · exact funext fun i => hC _ _ (by omega) (by omega) (by omega) (by omega)
    · exact funext fun i => hC _ _ (by omega) (by omega) (by omega) (by omega)
    · intro k k1 k2 k3; exact hM _ _ (by omega) (by omega) (by omega)
    · intro i i1 i2; exact ⟨hM _ _ (by omega) (by omega) (by omega), hM _ _ (by omega) (by omega) (by omega)⟩
    · exact hM _ _ (by omega) (by omega) (by omega)
  · intro b e hb he qb qe hbe
    have qb' : b ≠ a := qb
    have qe' : e ≠ a := qe
    rw [hM 211 b (by omega) (by omega) (by omega), hM 211 e (by omega) (by omega) (by omega), hM 217 b (by omega) (by omega) (by omega), hM 217 e (by omega) (by omega) (by omega), hM 213 b (by omega) (by omega) (by omega), hM 213 e (by omega) (by omega) (by omega)]
    exact w16 b e hb he qb qe hbe
