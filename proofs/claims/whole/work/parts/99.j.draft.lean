/-! THE DRAFT of a program, as it grows: the class's at cells 120 .. 126, the model's in half S -/
def SOK (τ τm : St) (N : Nat) (f : Nat → Nat) (cx : Nat → List Bool) (cd : Nat → Nat) (p : Nat) : Prop :=
  ((∃ k o m : Nat, ((k = 7 ∧ o = 0 ∧ m = 9) ∨ (k = 21 ∧ o = 1 ∧ m = 95) ∨ (k = 20 ∧ o = 2 ∧ m = 95) ∨ (k = 14 ∧ o = 3 ∧ m = 3) ∨ (k = 23 ∧ o = 4 ∧ m = 3) ∨ (k = 25 ∧ o = 5 ∧ m = 7) ∨ (k = 12 ∧ o = 6 ∧ m = 7) ∨ (k = 18 ∧ o = 7 ∧ m = 7) ∨ (k = 1 ∧ o = 8 ∧ m = 7) ∨ (k = 19 ∧ o = 9 ∧ m = 7) ∨ (k = 0 ∧ o = 10 ∧ m = 0)) ∧ τ 120 p = k ∧ τm 181 (f p) = o ∧ τm 182 (f p) = τ 121 p ∧ 0 ≤ τ 121 p ∧ τ 121 p ≤ m ∧ Sc N f cd p ∧ cx (p + 1) = cx p) ∨
   (τ 120 p = 3 ∧ τm 181 (f p) = 11 ∧ (∃ c' : Nat, τ 121 p = c' ∧ c' < cd p) ∧ τm 182 (f p) = τ 121 p ∧ Sc N f cd p ∧ cx (p + 1) = cx p) ∨
   (τ 120 p = 13 ∧ τm 181 (f p) = 12 ∧ τm 182 (f p) = τ 121 p ∧ 0 ≤ τ 121 p ∧ τ 121 p ≤ 95 ∧ Sc N f cd p ∧ cx (p + 1) = true :: cx p ∧ ∃ t : Nat, Tg N cx cd (τ 124 p) p t (cx p) ∧ p < t ∧ τm 184 (f p) = (f t : Int)) ∨
   (τ 120 p = 31 ∧ τm 181 (f p) = 13 ∧ Sc N f cd p ∧ cx p = true :: cx (p + 1) ∧ ∃ t : Nat, Tg N cx cd (τ 124 p) p t (cx p) ∧ t ≤ p ∧ τm 182 (f p) = (f t : Int)) ∨
   ((∃ k o m : Nat, ((k = 14 ∧ o = 0 ∧ m = 3) ∨ (k = 17 ∧ o = 1 ∧ m = 7) ∨ (k = 10 ∧ o = 2 ∧ m = 7) ∨ (k = 8 ∧ o = 3 ∧ m = 7) ∨ (k = 24 ∧ o = 4 ∧ m = 7) ∨ (k = 11 ∧ o = 5 ∧ m = 95) ∨ (k = 22 ∧ o = 6 ∧ m = 0)) ∧ τ 122 p = k ∧ ((τ 123 p = 1 ∧ τm 182 (f p) = 2 * o) ∨ (τ 123 p = 0 ∧ τm 182 (f p) = 2 * o + 1)) ∧ (k ≠ 22 → τm 183 (f p) = τ 121 p ∧ 0 ≤ τ 121 p ∧ τ 121 p ≤ m)) ∧ τ 120 p = 9 ∧ τm 181 (f p) = 14 ∧ Sc N f cd p ∧ cx (p + 1) = cx p ∧ ∃ t : Nat, Tg N cx cd (τ 124 p) p t (cx p) ∧ p < t ∧ τm 184 (f p) = (f t : Int)) ∨
   (τ 120 p = 15 ∧ τm 181 (f p) = 16 ∧ τm 182 (f p) = τ 121 p ∧ 0 ≤ τ 121 p ∧ τ 121 p ≤ 7 ∧ τm 183 (f p) = τ 122 p ∧ 0 ≤ τ 122 p ∧ τ 122 p ≤ 95 ∧ Sc N f cd p ∧ cx (p + 1) = false :: cx p ∧ ∃ t : Nat, Tg N cx cd (τ 124 p) p t (cx p) ∧ p < t ∧ τm 184 (f p) = (f t : Int)) ∨
   (τ 120 p = 32 ∧ τm 181 (f p) = 15 ∧ ∃ t : Nat, Tg N cx cd (τ 124 p) p t (cx p) ∧ p < t ∧ τm 182 (f p) = (f t : Int)) ∨
   (τ 120 p = 33 ∧ τm 181 (f p) = 17 ∧ ∃ r, ∃ t : Nat, cx p = false :: r ∧ Tg N cx cd (τ 124 p) p t r ∧ p < t ∧ ((t = p + 1 ∧ f (p + 1) = f p + 1) ∨ (τm 181 (f p + 1) = 15 ∧ τm 182 (f p + 1) = (f t : Int) ∧ f (p + 1) = f p + 2))) ∨
   (τ 120 p = 34 ∧ τm 181 (f p) = 18 ∧ cx p = []))
theorem sc_cg {N N' p : Nat} {f f' : Nat → Nat} {cx cx' : Nat → List Bool} {cd cd' : Nat → Nat} (h : Sc N f cd p) (hN : N ≤ N') (hx : ∀ i, i < N → f' i = f i ∧ cx' i = cx i ∧ cd' i = cd i) : Sc N' f' cd' p := by
  obtain ⟨h1, h2, h3⟩ := h
  exact ⟨by omega, by rw [(hx _ h1).1, (hx p (by omega)).1]; exact h2, by rw [(hx _ h1).2.2, (hx p (by omega)).2.2]; exact h3⟩
theorem tg_cg {N N' p t : Nat} {T : Int} {x : List Bool} {f f' : Nat → Nat} {cx cx' : Nat → List Bool} {cd cd' : Nat → Nat} (h : Tg N cx cd T p t x) (hp : p < N) (hN : N ≤ N') (hx : ∀ i, i < N → f' i = f i ∧ cx' i = cx i ∧ cd' i = cd i) : Tg N' cx' cd' T p t x := by
  obtain ⟨h1, h2, h3, h4⟩ := h
  exact ⟨h1, by omega, by rw [(hx _ h2).2.1]; exact h3, by rw [(hx _ h2).2.2, (hx p hp).2.2]; exact h4⟩
theorem sok_cg {τ τm τ' τm' : St} {N N' p : Nat} {f f' : Nat → Nat} {cx cx' : Nat → List Bool} {cd cd' : Nat → Nat} (h : SOK τ τm N f cx cd p) (hp : p < N) (hN : N ≤ N') (hx : ∀ i, i < N → f' i = f i ∧ cx' i = cx i ∧ cd' i = cd i)
    (hC : ∀ i, 120 ≤ i → i ≤ 124 → τ' i p = τ i p) (hM : ∀ i, 181 ≤ i → i ≤ 184 → τm' i (f p) = τm i (f p)) (hM2 : p + 1 < N → f (p + 1) = f p + 2 → τm' 181 (f p + 1) = τm 181 (f p + 1) ∧ τm' 182 (f p + 1) = τm 182 (f p + 1)) : SOK τ' τm' N' f' cx' cd' p := by
  obtain ⟨e1, e2, e3⟩ := hx p hp
  unfold SOK at h ⊢
  rw [e1, e2, e3, hC 120 (by decide) (by decide), hC 121 (by decide) (by decide), hC 122 (by decide) (by decide), hC 123 (by decide) (by decide), hC 124 (by decide) (by decide), hM 181 (by decide) (by decide), hM 182 (by decide) (by decide), hM 183 (by decide) (by decide), hM 184 (by decide) (by decide)]
  rcases h with ⟨k, o, m, h1, h2, h3, h4, h5, h6, h7, h8⟩ | ⟨h1, h2, h3, h4, h7, h8⟩ | ⟨h1, h2, h3, h4, h5, h7, h8, t, h9, h10, h11⟩ | ⟨h1, h2, h7, h8, t, h9, h10, h11⟩ | ⟨h1, h2, h3, h7, h8, t, h9, h10, h11⟩ | ⟨h1, h2, h3, h4, h5, h5a, h5b, h5c, h7, h8, t, h9, h10, h11⟩ | ⟨h1, h2, t, h9, h10, h11⟩ | ⟨h1, h2, r, t, h8, h9, h10, h11⟩ | ⟨h1, h2, h3⟩
  · exact Or.inl ⟨k, o, m, h1, h2, h3, h4, h5, h6, sc_cg h7 hN hx, by rw [(hx _ h7.1).2.1]; exact h8⟩
  · exact Or.inr (Or.inl ⟨h1, h2, h3, h4, sc_cg h7 hN hx, by rw [(hx _ h7.1).2.1]; exact h8⟩)
  · exact Or.inr (Or.inr (Or.inl ⟨h1, h2, h3, h4, h5, sc_cg h7 hN hx, by rw [(hx _ h7.1).2.1]; exact h8, t, tg_cg h9 hp hN hx, h10, by rw [(hx _ h9.2.1).1]; exact h11⟩))
  · exact Or.inr (Or.inr (Or.inr (Or.inl ⟨h1, h2, sc_cg h7 hN hx, by rw [(hx _ h7.1).2.1]; exact h8, t, tg_cg h9 hp hN hx, h10, by rw [(hx _ h9.2.1).1]; exact h11⟩)))
  · exact Or.inr (Or.inr (Or.inr (Or.inr (Or.inl ⟨h1, h2, h3, sc_cg h7 hN hx, by rw [(hx _ h7.1).2.1]; exact h8, t, tg_cg h9 hp hN hx, h10, by rw [(hx _ h9.2.1).1]; exact h11⟩))))
  · exact Or.inr (Or.inr (Or.inr (Or.inr (Or.inr (Or.inl ⟨h1, h2, h3, h4, h5, h5a, h5b, h5c, sc_cg h7 hN hx, by rw [(hx _ h7.1).2.1]; exact h8, t, tg_cg h9 hp hN hx, h10, by rw [(hx _ h9.2.1).1]; exact h11⟩)))))
  · exact Or.inr (Or.inr (Or.inr (Or.inr (Or.inr (Or.inr (Or.inl ⟨h1, h2, t, tg_cg h9 hp hN hx, h10, by rw [(hx _ h9.2.1).1]; exact h11⟩))))))
  · have hp1 : p + 1 < N := by have := h9.2.1; omega
    refine Or.inr (Or.inr (Or.inr (Or.inr (Or.inr (Or.inr (Or.inr (Or.inl ⟨h1, h2, r, t, h8, tg_cg h9 hp hN hx, h10, ?_⟩)))))))
    rw [(hx _ hp1).1, (hx _ h9.2.1).1]
    rcases h11 with h11 | ⟨g1, g2, g3⟩
    · exact Or.inl h11
    · obtain ⟨q1, q2⟩ := hM2 hp1 g3
      exact Or.inr ⟨by rw [q1]; exact g1, by rw [q2]; exact g2, g3⟩
  · exact Or.inr (Or.inr (Or.inr (Or.inr (Or.inr (Or.inr (Or.inr (Or.inr ⟨h1, h2, h3⟩)))))))
/-- a draft's step is a program's -/
theorem sok_st {ρ τ τm : St} {k0 N p : Nat} {f : Nat → Nat} {cx : Nat → List Bool} {cd : Nat → Nat} (h : SOK τ τm N f cx cd p) (hf : ∀ q, p ≤ q → q < N → f (q + 1) ≤ f N)
    (hC : ∀ i, 1 ≤ i → i ≤ 5 → ρ (k0 + i) p = τ (119 + i) p) (hM : ∀ i, 181 ≤ i → i ≤ 184 → ρ i (f p) = τm i (f p)) (hM2 : p + 1 < N → f (p + 1) = f p + 2 → ρ 181 (f p + 1) = τm 181 (f p + 1) ∧ ρ 182 (f p + 1) = τm 182 (f p + 1)) : StOK ρ k0 N f cx cd p := by
  unfold SOK at h
  unfold StOK
  rw [hC 1 (by decide) (by decide), hC 2 (by decide) (by decide), hC 3 (by decide) (by decide), hC 4 (by decide) (by decide), hC 5 (by decide) (by decide), hM 181 (by decide) (by decide), hM 182 (by decide) (by decide), hM 183 (by decide) (by decide), hM 184 (by decide) (by decide)]
  rcases h with h | h | h | h | h | h | h | ⟨h1, h2, r, t, h8, h9, h10, h11⟩ | h
  · exact Or.inl h
  · exact Or.inr (Or.inl h)
  · exact Or.inr (Or.inr (Or.inl h))
  · exact Or.inr (Or.inr (Or.inr (Or.inl h)))
  · exact Or.inr (Or.inr (Or.inr (Or.inr (Or.inl h))))
  · exact Or.inr (Or.inr (Or.inr (Or.inr (Or.inr (Or.inl h)))))
  · exact Or.inr (Or.inr (Or.inr (Or.inr (Or.inr (Or.inr (Or.inl h))))))
  · refine Or.inr (Or.inr (Or.inr (Or.inr (Or.inr (Or.inr (Or.inr (Or.inl ⟨h1, h2, r, t, h8, h9, h10, ?_⟩)))))))
    rcases h11 with h11 | ⟨g1, g2, g3⟩
    · exact Or.inl h11
    · have ht := h9.2.1
      obtain ⟨q1, q2⟩ := hM2 (by omega) g3
      have := hf p (Nat.le_refl _) (by omega)
      exact Or.inr ⟨by rw [q1]; exact g1, by rw [q2]; exact g2, by omega⟩
  · exact Or.inr (Or.inr (Or.inr (Or.inr (Or.inr (Or.inr (Or.inr (Or.inr h)))))))
/-! the open blocks -/
/-- loops and meets among the innermost j open blocks of kinds kd, the innermost first -/
def CX (kd : Nat → Int) : Nat → List Bool
  | 0 => []
  | j + 1 => if kd j = 13 then true :: CX kd j else if kd j = 15 then false :: CX kd j else CX kd j
theorem CX_cg {kd kd' : Nat → Int} : ∀ j, (∀ i, i < j → kd' i = kd i) → CX kd' j = CX kd j := by
  intro j
  induction j with
  | zero => intro _; rfl
  | succ j ih =>
    intro h
    unfold CX
    rw [h j (Nat.lt_succ_self j), ih (fun i hi => h i (by omega))]
theorem CX_len {kd : Nat → Int} : ∀ j, (CX kd j).length ≤ j := by
  intro j
  induction j with
  | zero => exact Nat.le_refl _
  | succ j ih =>
    unfold CX
    by_cases h1 : kd j = 13
    · rw [if_pos h1, List.length_cons]; omega
    · rw [if_neg h1]
      by_cases h2 : kd j = 15
      · rw [if_pos h2, List.length_cons]; omega
      · rw [if_neg h2]; omega
/-- step p of an open block of kind kd, whose model's number is a: all but its target -/
def OP (τ τm : St) (N : Nat) (f : Nat → Nat) (cx : Nat → List Bool) (cd : Nat → Nat) (kd : Int) (a : Nat) (x : List Bool) (p : Nat) : Prop :=
  (kd = 13 ∧ a = f p ∧ cx p = x ∧ τ 120 p = 13 ∧ τm 181 (f p) = 12 ∧ τm 182 (f p) = τ 121 p ∧ 0 ≤ τ 121 p ∧ τ 121 p ≤ 95 ∧ Sc N f cd p ∧ cx (p + 1) = true :: cx p) ∨
  (kd = 9 ∧ a = f p ∧ cx p = x ∧ (∃ k o m : Nat, ((k = 14 ∧ o = 0 ∧ m = 3) ∨ (k = 17 ∧ o = 1 ∧ m = 7) ∨ (k = 10 ∧ o = 2 ∧ m = 7) ∨ (k = 8 ∧ o = 3 ∧ m = 7) ∨ (k = 24 ∧ o = 4 ∧ m = 7) ∨ (k = 11 ∧ o = 5 ∧ m = 95) ∨ (k = 22 ∧ o = 6 ∧ m = 0)) ∧ τ 122 p = k ∧ ((τ 123 p = 1 ∧ τm 182 (f p) = 2 * o) ∨ (τ 123 p = 0 ∧ τm 182 (f p) = 2 * o + 1)) ∧ (k ≠ 22 → τm 183 (f p) = τ 121 p ∧ 0 ≤ τ 121 p ∧ τ 121 p ≤ m)) ∧ τ 120 p = 9 ∧ τm 181 (f p) = 14 ∧ Sc N f cd p ∧ cx (p + 1) = cx p) ∨
  (kd = 15 ∧ a = f p ∧ cx p = x ∧ τ 120 p = 15 ∧ τm 181 (f p) = 16 ∧ τm 182 (f p) = τ 121 p ∧ 0 ≤ τ 121 p ∧ τ 121 p ≤ 7 ∧ τm 183 (f p) = τ 122 p ∧ 0 ≤ τ 122 p ∧ τ 122 p ≤ 95 ∧ Sc N f cd p ∧ cx (p + 1) = false :: cx p) ∨
  (kd = 4 ∧ a = f p ∧ cx p = x ∧ τ 120 p = 32 ∧ τm 181 (f p) = 15) ∨
  (kd = 4 ∧ a = f p + 1 ∧ cx p = false :: x ∧ τ 120 p = 33 ∧ τm 181 (f p) = 17 ∧ τm 181 (f p + 1) = 15 ∧ p + 1 < N ∧ f (p + 1) = f p + 2)
theorem op_cg {τ τm τ' τm' : St} {N N' p a : Nat} {kd : Int} {x : List Bool} {f f' : Nat → Nat} {cx cx' : Nat → List Bool} {cd cd' : Nat → Nat} (h : OP τ τm N f cx cd kd a x p) (hp : p < N) (hN : N ≤ N') (hx : ∀ i, i < N → f' i = f i ∧ cx' i = cx i ∧ cd' i = cd i)
    (hC : ∀ i, 120 ≤ i → i ≤ 123 → τ' i p = τ i p) (hM : ∀ i, 181 ≤ i → i ≤ 183 → τm' i (f p) = τm i (f p)) (hM2 : p + 1 < N → f (p + 1) = f p + 2 → τm' 181 (f p + 1) = τm 181 (f p + 1)) : OP τ' τm' N' f' cx' cd' kd a x p := by
  obtain ⟨e1, e2, e3⟩ := hx p hp
  unfold OP at h ⊢
  rw [e1, e2, hC 120 (by decide) (by decide), hC 121 (by decide) (by decide), hC 122 (by decide) (by decide), hC 123 (by decide) (by decide), hM 181 (by decide) (by decide), hM 182 (by decide) (by decide), hM 183 (by decide) (by decide)]
  rcases h with ⟨h0, h1, h2, h3, h4, h5, h6, h7, h8, h9⟩ | ⟨h0, h1, h2, h3, h4, h5, h8, h9⟩ | ⟨h0, h1, h2, h3, h4, h5, h6, h7, h10, h11, h12, h8, h9⟩ | h | ⟨h0, h1, h2, h3, h4, h5, h6, h7⟩
  · exact Or.inl ⟨h0, h1, h2, h3, h4, h5, h6, h7, sc_cg h8 hN hx, by rw [(hx _ h8.1).2.1]; exact h9⟩
  · exact Or.inr (Or.inl ⟨h0, h1, h2, h3, h4, h5, sc_cg h8 hN hx, by rw [(hx _ h8.1).2.1]; exact h9⟩)
  · exact Or.inr (Or.inr (Or.inl ⟨h0, h1, h2, h3, h4, h5, h6, h7, h10, h11, h12, sc_cg h8 hN hx, by rw [(hx _ h8.1).2.1]; exact h9⟩))
  · exact Or.inr (Or.inr (Or.inr (Or.inl h)))
  · exact Or.inr (Or.inr (Or.inr (Or.inr ⟨h0, h1, h2, h3, h4, by rw [hM2 h6 h7]; exact h5, by omega, by rw [(hx _ h6).1]; exact h7⟩)))
/-- the draft: n steps, the model's m; code c under way; o: the steps whose target is still open -/
def DrP (S n m c : Nat) (f : Nat → Nat) (cx : Nat → List Bool) (cd : Nat → Nat) (o : Nat → Prop) (τ τm : St) : Prop :=
  (f 0 = 1000 * S ∧ f n = 1000 * S + m) ∧ (∀ p, p < n → f p < f (p + 1) ∧ (cx p).length ≤ 6) ∧ (cd n = c ∧ ∀ p q, p ≤ q → q ≤ n → cd p ≤ cd q) ∧
  (∀ i, i ≤ c → ∃ b : Nat, τ 126 i = (b : Int) ∧ b ≤ n ∧ cx b = [] ∧ cd b = i ∧ τm 180 (8 * S + i) = (f b : Int)) ∧ ∀ p, p < n → ¬ o p → SOK τ τm (n + 1) f cx cd p
/-- its open blocks -/
def DrQ (n c nb : Nat) (f : Nat → Nat) (cx : Nat → List Bool) (cd : Nat → Nat) (τ τm : St) : Prop :=
  cx n = CX (τ 127) nb ∧ (∀ j, j < nb → ∃ p a : Nat, τ 128 j = (p : Int) ∧ τm 186 (j + 1) = (a : Int) ∧ p < n ∧ cd p = c ∧ OP τ τm (n + 1) f cx cd (τ 127 j) a (CX (τ 127) j) p) ∧ ∀ i j, i < j → j < nb → τ 128 i < τ 128 j
/-- the steps of the first nb open blocks -/
def Opn (nb : Nat) (τ : St) (p : Nat) : Prop := ∃ j, j < nb ∧ τ 128 j = (p : Int)
def exn {α : Type} (g : Nat → α) (n : Nat) (v : α) : Nat → α := fun i => if i = n + 1 then v else g i
theorem exn_le {α : Type} {g : Nat → α} {n i : Nat} {v : α} (h : i ≤ n) : exn g n v i = g i := if_neg (by omega)
theorem exn_eq {α : Type} {g : Nat → α} {n : Nat} {v : α} : exn g n v (n + 1) = v := if_pos rfl
theorem exn_all {n w c : Nat} {x : List Bool} {f : Nat → Nat} {cx : Nat → List Bool} {cd : Nat → Nat} : ∀ i, i < n + 1 → exn f n w i = f i ∧ exn cx n x i = cx i ∧ exn cd n c i = cd i := fun i hi => ⟨exn_le (by omega), exn_le (by omega), exn_le (by omega)⟩
theorem dr_mono {n : Nat} {f : Nat → Nat} (h : ∀ p, p < n → f p < f (p + 1)) : ∀ q p, p < q → q ≤ n → f p < f q := by
  intro q
  induction q with
  | zero => intro p h1; omega
  | succ q ih =>
    intro p h1 h2
    have := h q (by omega)
    by_cases hpq : p = q
    · subst hpq; exact this
    · have := ih p (by omega) (by omega); omega
/-- a step is put behind the others -/
theorem drp_ext {S n m c w : Nat} {x : List Bool} {f : Nat → Nat} {cx : Nat → List Bool} {cd : Nat → Nat} {o o' : Nat → Prop} {τ τm τ' τm' : St} (h : DrP S n m c f cx cd o τ τm) (hw : 1 ≤ w)
    (hC : ∀ i j, 120 ≤ i → i ≤ 124 → j < n → τ' i j = τ i j) (h126 : τ' 126 = τ 126) (hM : ∀ i j, 181 ≤ i → i ≤ 184 → j < 1000 * S + m → τm' i j = τm i j) (h180 : τm' 180 = τm 180) (hxl : (cx n).length ≤ 6)
    (ho : ∀ p, p < n → ¬ o' p → ¬ o p) (hn : ¬ o' n → SOK τ' τm' (n + 2) (exn f n (f n + w)) (exn cx n x) (exn cd n c) n) : DrP S (n + 1) (m + w) c (exn f n (f n + w)) (exn cx n x) (exn cd n c) o' τ' τm' := by
  obtain ⟨⟨h1, h2⟩, h3, ⟨h4, h5⟩, h6, h7⟩ := h
  have fm := dr_mono (fun p hp => (h3 p hp).1)
  refine ⟨⟨by rw [exn_le (Nat.zero_le _)]; exact h1, by rw [exn_eq, h2]; omega⟩, fun p hp => ?_, ⟨exn_eq, fun p q hpq hq => ?_⟩, fun i hi => ?_, fun p hp hop => ?_⟩
  · by_cases hpn : p = n
    · subst hpn
      rw [exn_le (Nat.le_refl _), exn_eq, exn_le (Nat.le_refl _)]
      exact ⟨by omega, hxl⟩
    · rw [exn_le (by omega), exn_le (by omega), exn_le (by omega)]; exact h3 p (by omega)
  · by_cases hqn : q = n + 1
    · subst hqn
      rw [exn_eq]
      by_cases hpn : p = n + 1
      · subst hpn; rw [exn_eq]; exact Nat.le_refl _
      · rw [exn_le (by omega), ← h4]; exact h5 p n (by omega) (Nat.le_refl _)
    · rw [exn_le (by omega), exn_le (by omega)]; exact h5 p q hpq (by omega)
  · obtain ⟨b, b1, b2, b3, b4, b5⟩ := h6 i hi
    exact ⟨b, by rw [h126]; exact b1, by omega, by rw [exn_le b2]; exact b3, by rw [exn_le b2]; exact b4, by rw [exn_le b2, h180]; exact b5⟩
  · by_cases hpn : p = n
    · subst hpn; exact hn hop
    · have hf1 : f p < f n := fm n p (by omega) (Nat.le_refl _)
      refine sok_cg (h7 p (by omega) (ho p (by omega) hop)) (by omega) (by omega) exn_all (fun i i1 i2 => hC i p i1 i2 (by omega)) (fun i i1 i2 => hM i _ i1 i2 (by omega)) (fun q1 q2 => ?_)
      have hf2 : f (p + 1) ≤ f n := by
        by_cases hp1 : p + 1 = n
        · rw [hp1]; exact Nat.le_refl _
        · exact Nat.le_of_lt (fm n (p + 1) (by omega) (Nat.le_refl _))
      exact ⟨hM _ _ (by decide) (by decide) (by omega), hM _ _ (by decide) (by decide) (by omega)⟩
theorem drq_ext {S n m c nb w : Nat} {x : List Bool} {f : Nat → Nat} {cx : Nat → List Bool} {cd : Nat → Nat} {o : Nat → Prop} {τ τm τ' τm' : St} (hP : DrP S n m c f cx cd o τ τm) (h : DrQ n c nb f cx cd τ τm)
    (hC : ∀ i j, 120 ≤ i → i ≤ 123 → j < n → τ' i j = τ i j) (h127 : ∀ j, j < nb → τ' 127 j = τ 127 j ∧ τ' 128 j = τ 128 j ∧ τm' 186 (j + 1) = τm 186 (j + 1)) (hM : ∀ i j, 181 ≤ i → i ≤ 183 → j < 1000 * S + m → τm' i j = τm i j) (hx : x = CX (τ' 127) nb) : DrQ (n + 1) c nb (exn f n (f n + w)) (exn cx n x) (exn cd n c) τ' τm' := by
  obtain ⟨⟨h1, h2⟩, h3, -⟩ := hP
  obtain ⟨g1, g2, g3⟩ := h
  have fm := dr_mono (fun p hp => (h3 p hp).1)
  refine ⟨by rw [exn_eq]; exact hx, fun j hj => ?_, fun i j hij hj => ?_⟩
  · obtain ⟨p, a, k1, k2, k3, k4, k5⟩ := g2 j hj
    obtain ⟨e1, e2, e3⟩ := h127 j hj
    have hf1 : f p < f n := fm n p (by omega) (Nat.le_refl _)
    refine ⟨p, a, by rw [e2]; exact k1, by rw [e3]; exact k2, by omega, by rw [exn_le (by omega)]; exact k4, ?_⟩
    rw [e1, CX_cg j (fun i hi => (h127 i (by omega)).1)]
    refine op_cg k5 (by omega) (by omega) exn_all (fun i i1 i2 => hC i p i1 i2 (by omega)) (fun i i1 i2 => hM i _ i1 i2 (by omega)) (fun q1 q2 => ?_)
    have hf2 : f (p + 1) ≤ f n := by
      by_cases hp1 : p + 1 = n
      · rw [hp1]; exact Nat.le_refl _
      · exact Nat.le_of_lt (fm n (p + 1) (by omega) (Nat.le_refl _))
    exact hM _ _ (by decide) (by decide) (by omega)
  · rw [(h127 i (by omega)).2.1, (h127 j hj).2.1]; exact g3 i j hij hj
/-- only what is at step p0, and at the model's, may have changed -/
theorem drp_at {S n m c p0 : Nat} {f : Nat → Nat} {cx : Nat → List Bool} {cd : Nat → Nat} {o o' : Nat → Prop} {τ τm τ' τm' : St} (h : DrP S n m c f cx cd o τ τm) (hp0 : p0 < n)
    (hC : ∀ i j, 120 ≤ i → i ≤ 124 → j ≠ p0 → τ' i j = τ i j) (h126 : τ' 126 = τ 126) (hM : ∀ i j, 181 ≤ i → i ≤ 184 → j < f p0 ∨ f (p0 + 1) ≤ j → τm' i j = τm i j) (h180 : τm' 180 = τm 180)
    (ho : ∀ p, p < n → p ≠ p0 → ¬ o' p → ¬ o p) (hn : ¬ o' p0 → SOK τ' τm' (n + 1) f cx cd p0) : DrP S n m c f cx cd o' τ' τm' := by
  obtain ⟨h1, h3, h4, h6, h7⟩ := h
  have fm := dr_mono (fun p hp => (h3 p hp).1)
  refine ⟨h1, h3, h4, fun i hi => ?_, fun p hp hop => ?_⟩
  · obtain ⟨b, b1, b2, b3, b4, b5⟩ := h6 i hi
    exact ⟨b, by rw [h126]; exact b1, b2, b3, b4, by rw [h180]; exact b5⟩
  · by_cases hpn : p = p0
    · subst hpn; exact hn hop
    · refine sok_cg (h7 p hp (ho p hp hpn hop)) (by omega) (Nat.le_refl _) (fun _ _ => ⟨rfl, rfl, rfl⟩) (fun i i1 i2 => hC i p i1 i2 hpn) (fun i i1 i2 => hM i _ i1 i2 ?_) (fun q1 q2 => ?_)
      · by_cases hlt : p < p0
        · exact Or.inl (fm p0 p hlt (by omega))
        · have h8 : f (p0 + 1) ≤ f p := by
            by_cases hp1 : p0 + 1 = p
            · rw [hp1]; exact Nat.le_refl _
            · exact Nat.le_of_lt (fm p (p0 + 1) (by omega) (by omega))
          exact Or.inr h8
      · have hz : f p + 1 < f p0 ∨ f (p0 + 1) ≤ f p + 1 := by
          by_cases hlt : p < p0
          · have h8 : f (p + 1) ≤ f p0 := by
              by_cases hp1 : p + 1 = p0
              · rw [hp1]; exact Nat.le_refl _
              · exact Nat.le_of_lt (fm p0 (p + 1) (by omega) (by omega))
            exact Or.inl (by omega)
          · have h8 : f (p0 + 1) ≤ f p := by
              by_cases hp1 : p0 + 1 = p
              · rw [hp1]; exact Nat.le_refl _
              · exact Nat.le_of_lt (fm p (p0 + 1) (by omega) (by omega))
            exact Or.inr (by omega)
        exact ⟨hM _ _ (by decide) (by decide) hz, hM _ _ (by decide) (by decide) hz⟩
theorem drq_at {S n m c nb p0 : Nat} {f : Nat → Nat} {cx : Nat → List Bool} {cd : Nat → Nat} {o : Nat → Prop} {τ τm τ' τm' : St} (hP : DrP S n m c f cx cd o τ τm) (h : DrQ n c nb f cx cd τ τm) (hp0 : p0 < n) (hno : ¬ Opn nb τ p0)
    (hC : ∀ i j, 120 ≤ i → i ≤ 123 → j ≠ p0 → τ' i j = τ i j) (h127 : ∀ j, j < nb → τ' 127 j = τ 127 j ∧ τ' 128 j = τ 128 j ∧ τm' 186 (j + 1) = τm 186 (j + 1)) (hM : ∀ i j, 181 ≤ i → i ≤ 183 → j < f p0 ∨ f (p0 + 1) ≤ j → τm' i j = τm i j) : DrQ n c nb f cx cd τ' τm' := by
  obtain ⟨h1, h3, -⟩ := hP
  obtain ⟨g1, g2, g3⟩ := h
  have fm := dr_mono (fun p hp => (h3 p hp).1)
  refine ⟨by rw [CX_cg nb (fun i hi => (h127 i hi).1)]; exact g1, fun j hj => ?_, fun i j hij hj => ?_⟩
  · obtain ⟨p, a, k1, k2, k3, k4, k5⟩ := g2 j hj
    obtain ⟨e1, e2, e3⟩ := h127 j hj
    have hpn : p ≠ p0 := fun q => hno ⟨j, hj, by rw [k1, q]⟩
    refine ⟨p, a, by rw [e2]; exact k1, by rw [e3]; exact k2, k3, k4, ?_⟩
    rw [e1, CX_cg j (fun i hi => (h127 i (by omega)).1)]
    refine op_cg k5 (by omega) (Nat.le_refl _) (fun _ _ => ⟨rfl, rfl, rfl⟩) (fun i i1 i2 => hC i p i1 i2 hpn) (fun i i1 i2 => hM i _ i1 i2 ?_) (fun q1 q2 => hM _ _ (by decide) (by decide) ?_)
    · by_cases hlt : p < p0
      · exact Or.inl (fm p0 p hlt (by omega))
      · have h8 : f (p0 + 1) ≤ f p := by
          by_cases hp1 : p0 + 1 = p
          · rw [hp1]; exact Nat.le_refl _
          · exact Nat.le_of_lt (fm p (p0 + 1) (by omega) (by omega))
        exact Or.inr h8
    · by_cases hlt : p < p0
      · have h8 : f (p + 1) ≤ f p0 := by
          by_cases hp1 : p + 1 = p0
          · rw [hp1]; exact Nat.le_refl _
          · exact Nat.le_of_lt (fm p0 (p + 1) (by omega) (by omega))
        exact Or.inl (by omega)
      · have h8 : f (p0 + 1) ≤ f p := by
          by_cases hp1 : p0 + 1 = p
          · rw [hp1]; exact Nat.le_refl _
          · exact Nat.le_of_lt (fm p (p0 + 1) (by omega) (by omega))
        exact Or.inr (by omega)
  · rw [(h127 i (by omega)).2.1, (h127 j hj).2.1]; exact g3 i j hij hj
