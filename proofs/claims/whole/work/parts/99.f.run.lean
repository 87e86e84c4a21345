/-! run -/
/-- what both began with: the class's cells, the model's, and behind 1000 what either finds in the cells of the other -/
def mix (τ τm : St) : St := fun k j => if k < 170 then τ k j else if k < 1000 then τm k j else if k % 2 = 0 then τm ((k - 2000) / 2) j else τ ((k - 2001) / 2) j
theorem mix_c {τ τm : St} (k j : Nat) : mix τ τm (cc k) j = τ k j := by
  unfold cc mix
  by_cases h : k < 170
  · rw [if_pos h, if_pos h]
  · rw [if_neg h, if_neg (by omega), if_neg (by omega), if_neg (by omega), show (2 * k + 2001 - 2001) / 2 = k by omega]
theorem mix_m {τ τm : St} (k j : Nat) : mix τ τm (mc k) j = τm k j := by
  unfold mc mix
  by_cases h : 170 ≤ k ∧ k < 1000
  · rw [if_pos h, if_neg (by omega), if_pos h.2]
  · rw [if_neg h, if_neg (by omega), if_neg (by omega), if_pos (by omega), show (2 * k + 2000 - 2000) / 2 = k by omega]
theorem mix_lo {τ τm : St} {k j : Nat} (h : k < 170) : mix τ τm k j = τ k j := by unfold mix; rw [if_pos h]
theorem mix_hi {τ τm : St} {k j : Nat} (h : 170 ≤ k ∧ k < 1000) : mix τ τm k j = τm k j := by unfold mix; rw [if_neg (by omega), if_pos h.2]
/-- written by a run -/
def wrb (k j : Nat) : Bool := decide ((39 ≤ k ∧ k ≤ 94 ∧ ((3 < j ∧ j ≤ 18) ∨ (k - 39) % 7 ≠ 0)) ∨ (130 ≤ k ∧ k ≤ 152) ∨ (k = 129 ∧ (j = 0 ∨ j = 1 ∨ j = 6 ∨ j = 12 ∨ j = 13)) ∨ (k = 36 ∨ k = 37 ∨ (k = 30 ∧ j = 6)) ∨ (201 ≤ k ∧ k ≤ 220) ∨ (k = 170 ∧ (j = 0 ∨ j = 48 ∨ j = 58 ∨ j = 60 ∨ j = 71 ∨ j = 72)) ∨ (k = 193 ∨ k = 194 ∨ k = 200))
def wrc (k : Nat) : Bool := decide ((39 ≤ k ∧ k ≤ 94) ∨ (129 ≤ k ∧ k ≤ 152) ∨ k = 36 ∨ k = 37 ∨ k = 30 ∨ (200 ≤ k ∧ k ≤ 220) ∨ k = 170 ∨ k = 193 ∨ k = 194)
theorem wrc_b {k : Nat} (h : wrc k = false) (j : Nat) : wrb k j = false := by
  unfold wrc at h
  unfold wrb
  rw [decide_eq_false_iff_not] at h ⊢
  omega
def clr (a b : Nat) : Bool := (List.range (b + 1)).all fun k => Nat.blt k a || !(wrc k)
def unt (L : Rg) : Bool := (L.1.all fun r => Nat.blt r.2 1000 && clr r.1 r.2) && (L.2.all fun s => Nat.blt s.1 1000 && !(wrb s.1 s.2))
theorem keepF {L : Rg} {P : St → Prop} {σ σ' : St} (hD : Dep L P) (hw : ∀ k j, k < 1000 → wrb k j = false → σ' k j = σ k j) (hu : unt L = true) (h : P σ) : P σ' := by
  refine hD σ σ' (fun k j hk => ?_) h
  simp only [unt, Bool.and_eq_true, List.all_eq_true, Nat.blt_eq, clr, Bool.or_eq_true, Bool.not_eq_true', List.mem_range] at hu
  obtain ⟨u1, u2⟩ := hu
  simp only [inR, Bool.or_eq_true] at hk
  rcases hk with hk | hk
  · rw [inC_sp] at hk
    obtain ⟨r, hr, hr1, hr2⟩ := hk
    obtain ⟨v1, v2⟩ := u1 r hr
    rcases v2 k (by omega) with v3 | v3
    · omega
    · exact hw k j (by omega) (wrc_b v3 j)
  · rw [inS_sp] at hk
    obtain ⟨v1, v2⟩ := u2 _ hk
    exact hw k j v1 v2
theorem wrb_no {k j : Nat} (h : wrb k j = false) : (¬ RunC k j ∧ ¬ (k = 36 ∨ k = 37 ∨ (k = 30 ∧ j = 6) ∨ (k = 129 ∧ (j = 0 ∨ j = 1)))) ∧ ¬ RunM k j ∧ ¬ ((k = 193 ∨ k = 194 ∨ k = 200) ∨ (k = 170 ∧ (j = 0 ∨ j = 48))) := by
  unfold wrb at h
  rw [decide_eq_false_iff_not] at h
  unfold RunC RunM
  omega
theorem mix_eq {σ σm τ τm : St} {n : Int} {A L : Nat} (hC : BegC σ n A τ) (hM : BegM σ σm n A L τm) (hm : MSt σ σm) {k j : Nat} (hk : k < 1000) (h : wrb k j = false) : mix τ τm k j = σ k j := by
  obtain ⟨⟨n1, n2⟩, n3, n4⟩ := wrb_no h
  by_cases hlt : k < 170
  · rw [mix_lo hlt]; exact hC.1 k j n1 n2
  · rw [mix_hi ⟨by omega, hk⟩, hM.1 k j n3 n4]; exact hm k j n1 n2
theorem run_base {σ σm τ τm : St} {n : Int} {A L N c : Nat} {f : Nat → Nat} {cx : Nat → List Bool} {cd : Nat → Nat} (hI : Inv σ) (hA : σ 0 6 = (A : Int)) (hL : L < 2) (e17 : σ 170 17 = (L : Int)) (q3 : σ 22 7 = (N : Int)) (q4 : σ 22 8 = (c : Int)) (q5 : PgT σ 22 L N c f cx cd) (hC : BegC σ n A τ) (hM : BegM σ σm n A L τm) (hm : MSt σ σm) : Base (mix τ τm) A N f cx cd := by
  obtain ⟨k1, k2, k3, k4, k5, k6, k7, k8, k9, k10, k11⟩ := hI
  have a0 := k6.1
  have hw : ∀ k j, k < 1000 → wrb k j = false → mix τ τm k j = σ k j := fun k j h1 h2 => mix_eq hC hM hm h1 h2
  obtain ⟨c1, ⟨c2, c3, c4, c5⟩, c6, c7, c8, c9, c10⟩ := hC
  obtain ⟨m1, ⟨m2, m3, m4, m5⟩, m6, m7, m8, m9, m10, m11, m12⟩ := hM
  have hE : Edge (mix τ τm) ((mix τ τm) 1 5) = Edge σ (σ 1 5) := edge_cg (fun k j h => hw k j (by omega) (by unfold wrb; rw [decide_eq_false_iff_not]; omega))
  refine ⟨⟨keepF dep_iTown hw (by decide +kernel) k1, keepF dep_iNear hw (by decide +kernel) k2, keepF dep_iAg hw (by decide +kernel) k6⟩, ⟨?_, by omega, ?_, ?_, ?_⟩, ⟨L, c, hL, ?_, ?_, ?_, ?_⟩, ?_, ?_, ?_⟩
  · rw [hw 0 6 (by decide) (by decide), hA]
  · rw [mix_lo (by decide), c2]
  · rw [mix_lo (by decide), c3]
  · rw [mix_hi (by decide), m2]
  · rw [hw 170 17 (by decide) (by decide), e17]
  · rw [hw 22 7 (by decide) (by decide), q3]
  · rw [hw 22 8 (by decide) (by decide), q4]
  · refine PgT_cg ?_ ?_ ?_ ?_ ?_ ?_ q5
    · intro j hj
      funext i
      exact hw (22 + j) i (by omega) (by unfold wrb; rw [decide_eq_false_iff_not]; omega)
    · exact funext fun j => hw 180 j (by decide) (by unfold wrb; rw [decide_eq_false_iff_not]; omega)
    · exact funext fun j => hw 181 j (by decide) (by unfold wrb; rw [decide_eq_false_iff_not]; omega)
    · exact funext fun j => hw 182 j (by decide) (by unfold wrb; rw [decide_eq_false_iff_not]; omega)
    · exact funext fun j => hw 183 j (by decide) (by unfold wrb; rw [decide_eq_false_iff_not]; omega)
    · exact funext fun j => hw 184 j (by decide) (by unfold wrb; rw [decide_eq_false_iff_not]; omega)
  · intro t s ht hs
    rw [mix_hi (by decide), mix_lo (by decide)]
    obtain ⟨g1, g2⟩ := m6 s t hs ht
    exact ⟨g1, g2.trans (c6 t s ht).symm⟩
  · have e : (fun a b => (mix τ τm) 193 (10 * a + b)) = (fun a b => τm 193 (10 * a + b)) := by
      funext a b
      exact mix_hi (by decide)
    rw [e, hE]; exact m7
  · intro x y hx hy
    rw [mix_hi (by decide), m8 x y hx hy]
    exact (nM_cg (hw _ _ (by omega) (by unfold wrb; rw [decide_eq_false_iff_not]; omega))).symm
theorem run_bd {σ σm τ τm : St} {n : Int} {A L N c : Nat} {f : Nat → Nat} {cx : Nat → List Bool} {cd : Nat → Nat} (hI : Inv σ) (hA : σ 0 6 = (A : Int)) (q4 : σ 22 8 = (c : Int)) (q5 : PgT σ 22 L N c f cx cd) (hC : BegC σ n A τ) (hM : BegM σ σm n A L τm) (hm : MSt σ σm) : Bd (mix τ τm) A N f cx cd 0 τ τm := by
  obtain ⟨k1, k2, k3, k4, k5, k6, k7, k8, k9, k10, k11⟩ := hI
  have a0 := k6.1
  have hw : ∀ k j, k < 1000 → wrb k j = false → mix τ τm k j = σ k j := fun k j h1 h2 => mix_eq hC hM hm h1 h2
  have hmE : ∀ k j, k < 1000 → wrb k j = false → τm k j = σ k j := fun k j h1 h2 => by
    obtain ⟨⟨n1, n2⟩, n3, n4⟩ := wrb_no h2
    rw [hM.1 k j n3 n4]; exact hm k j n1 n2
  obtain ⟨c1, ⟨c2, c3, c4, c5⟩, c6, c7, c8, c9, c10⟩ := hC
  obtain ⟨m1, ⟨m2, m3, m4, m5⟩, m6, m7, m8, m9, m10, m11, m12⟩ := hM
  have hs0 : ∀ b, b < A → ∀ j, j ≤ 3 → τ (39 + 7 * b) j = σ (39 + 7 * b) j := fun b hb j hj => c1 _ _ (by unfold RunC; omega) (by omega)
  have h190 : ∀ b, τm 190 b = σ 190 b := fun b => hmE _ _ (by decide) (by unfold wrb; rw [decide_eq_false_iff_not]; omega)
  have h191 : ∀ b, τm 191 b = σ 191 b := fun b => hmE _ _ (by decide) (by unfold wrb; rw [decide_eq_false_iff_not]; omega)
  have h192 : ∀ b, τm 192 b = σ 192 b := fun b => hmE _ _ (by decide) (by unfold wrb; rw [decide_eq_false_iff_not]; omega)
  have h180 : ∀ b, τm 180 b = σ 180 b := fun b => hmE _ _ (by decide) (by unfold wrb; rw [decide_eq_false_iff_not]; omega)
  have h29 : ∀ b, τ 29 b = σ 29 b := fun b => c1 _ _ (by unfold RunC; omega) (by omega)
  have e14 : (mix τ τm) 1 4 = σ 1 4 := hw 1 4 (by decide) (by decide)
  refine ⟨⟨⟨fun k j _ => (mix_c k j).symm, fun k j _ => (mix_m k j).symm⟩, ⟨m5, by rw [c5, m4]⟩, ⟨0, c4, Nat.zero_le _⟩, by rw [m3, c4], fun i hi => by rw [c4] at hi; omega⟩, ⟨⟨fun _ _ => 0, ?_⟩, ?_, ?_, ?_, ?_, ?_, ?_⟩, ?_, ?_⟩
  · intro b i hb hi
    obtain ⟨-, -, -, g4, -⟩ := c10 b hb
    obtain ⟨g5, -⟩ := m12 b hb
    obtain ⟨ag1, -⟩ := k6.2 b (by omega)
    have e1 : τm 202 (8 * b + i) = τ (44 + 7 * b) i := by
      rw [g5 i hi, (g4 i hi).1, h191, hs0 b hb 1 (by omega), (ag1 (by omega)).2.1.1]
    have e2 : τm 203 (8 * b + i) = -1 := (m9 _ (by omega)).1
    exact ⟨⟨e1, by rw [e2, (g4 i hi).2]⟩, Or.inl e2, fun _ => e2⟩
  · intro b hb
    obtain ⟨-, -, ⟨g1, -⟩, -⟩ := c10 b hb
    obtain ⟨-, ⟨g2, -⟩, -⟩ := m12 b hb
    rw [g2]
    refine ⟨g1.symm, ⟨by decide, by decide⟩, fun i hi q => ?_⟩
    rw [tb_zero] at q
    exact absurd q (by decide)
  · intro s hs
    rw [m10 s hs, (c7 s hs).1]
    exact ⟨rfl, by decide, by decide⟩
  · intro s hs
    rw [(c7 s hs).2]
    refine ⟨⟨by decide, by decide⟩, fun i hi => ?_⟩
    rw [m11 _ (by omega), tb_zero]
    exact ⟨⟨fun q => absurd rfl q, fun q => absurd q (by decide)⟩, fun q => absurd rfl q⟩
  · intro b hb
    refine ⟨(m9 _ (by omega)).2, fun e he => ?_⟩
    rw [(m9 _ (by omega)).2, c8 b e (by omega) (by omega)]
  · intro b t' hb ht'
    rcases ht' with h | ⟨-, h⟩ <;> omega
  · exact c9
  · intro b hb
    obtain ⟨⟨g1, g2, g3, g4⟩, ⟨g5, g6, g7⟩, ⟨g8, g9⟩, g10, g11⟩ := c10 b hb
    obtain ⟨-, ⟨r1, r2, r3, r4⟩, r5⟩ := m12 b hb
    obtain ⟨ag1, ag2, -⟩ := k6.2 b (by omega)
    obtain ⟨⟨b1, b2, b3⟩, -, b4⟩ := ag1 (by omega)
    obtain ⟨s, hs⟩ := Int.eq_ofNat_of_zero_le b2
    have h9 : τ (39 + 7 * b) 9 = (s : Int) := by rw [g5, hs0 b hb 0 (by omega), hs]
    have h213 : τm 213 b = (s : Int) := by rw [r4, h190, b1, hs]
    rw [hs0 b hb 2 (by omega)] at g11
    rw [h192, b4] at r5
    rcases r5 with ⟨z1, z2, z3⟩ | ⟨i, z1, z2, z3, z4⟩
    · rcases g11 with ⟨-, g12⟩ | ⟨i, g12, -⟩
      · exact ⟨s, ⟨h213, by rw [e14]; omega⟩, ⟨by rw [z3, g12], by rw [r2, g9]⟩, Or.inl ⟨z2, by rw [g12]; decide, ⟨g3, g4⟩, h9, g6, g7, trivial⟩⟩
      · omega
    · rcases g11 with ⟨g12, -⟩ | ⟨i', g12, g13, g14⟩
      · omega
      · have hii : i' = i := by omega
        subst hii
        obtain ⟨p, p1, p2, p3, p4, p5⟩ := q5.2.2.2 i' (by omega)
        refine ⟨s, ⟨h213, by rw [e14]; omega⟩, ⟨by rw [z3, g13], by rw [r2, g9]⟩, Or.inr ⟨g13, p, [], ⟨p2, by rw [g14, h29]; exact p1, by rw [z4, h180]; exact p5⟩, ⟨⟨by rw [g1]; rfl, by decide, fun i e he => by simp at he⟩, ⟨by rw [r3]; rfl, by decide, fun i e he => by simp at he⟩, 0, [], ?_, Or.inl rfl⟩, Or.inl ⟨z2, by rw [g2]; decide, ⟨g3, g4⟩, h9, g6, g7, trivial⟩⟩⟩
        rw [p3]; rfl
  · intro b e hb he _ _ _ hb2 _ _ _
    obtain ⟨-, -, r5⟩ := m12 b hb
    rcases r5 with ⟨-, z2, -⟩ | ⟨i, -, z2, -⟩ <;> omega
/-- how many e below n -/
def cN (P : Nat → Bool) : Nat → Nat
  | 0 => 0
  | n + 1 => cN P n + (if P n = true then 1 else 0)
theorem cN_le {P : Nat → Bool} : ∀ n, cN P n ≤ n := by
  intro n
  induction n with
  | zero => exact Nat.le_refl _
  | succ n ih => unfold cN; split <;> omega
theorem cN_mono {P Q : Nat → Bool} : ∀ n, (∀ e, e < n → P e = true → Q e = true) → cN P n ≤ cN Q n := by
  intro n
  induction n with
  | zero => intro _; exact Nat.le_refl _
  | succ n ih =>
    intro h
    have := ih (fun e he => h e (by omega))
    unfold cN
    by_cases hp : P n = true
    · rw [if_pos hp, if_pos (h n (by omega) hp)]; omega
    · rw [if_neg hp]; omega
theorem cN_lt {P Q : Nat → Bool} {x : Nat} : ∀ n, (∀ e, e < n → P e = true → Q e = true) → x < n → Q x = true → P x = false → cN P n < cN Q n := by
  intro n
  induction n with
  | zero => intro _ h; omega
  | succ n ih =>
    intro h hx hq hp
    unfold cN
    by_cases hxn : x = n
    · subst hxn
      have := cN_mono (P := P) (Q := Q) x (fun e he => h e (by omega))
      rw [if_neg (by rw [hp]; decide), if_pos hq]; omega
    · have := ih (fun e he => h e (by omega)) (by omega) hq hp
      by_cases hpn : P n = true
      · rw [if_pos hpn, if_pos (h n (by omega) hpn)]; omega
      · rw [if_neg hpn]; omega
theorem run_inv {ρ τ τm : St} {A N : Nat} {f : Nat → Nat} {cx : Nat → List Bool} {cd : Nat → Nat} (hA8 : A ≤ 8) (h : Bd ρ A N f cx cd 96 τ τm) (ce : ∀ k j, k < 170 → τm k j = τ k j) (e0 : τ 129 0 = 1) (e1 : τ 129 1 = (A : Int)) (e48 : τm 170 48 = (A : Int)) (e6 : τ 0 6 = (A : Int)) : iRun τm := by
  obtain ⟨⟨-, -, ⟨e, w3, w3'⟩, w4, w5⟩, ⟨⟨rk, v1⟩, v2, v3, v4, v5, v6, v7⟩, w15, w16⟩ := h
  refine Or.inr ⟨⟨?_, ?_, ?_, ?_⟩, ?_, ⟨fun b i => cN (fun x => decide (rk x i < rk b i)) 8, ?_⟩, ?_, ⟨?_, ?_, ?_⟩, ?_⟩
  · rw [ce 129 0 (by decide)]; exact e0
  · rw [ce 129 1 (by decide), e48, e1]
  · rw [ce 129 1 (by decide), e1]; omega
  · rw [ce 129 1 (by decide), ce 0 6 (by decide), e1, e6]; omega
  · intro a ha ha8
    rw [ce 129 1 (by decide), e1] at ha
    have ha' : a < A := by omega
    refine ⟨?_, ?_, ⟨?_, ?_, ?_⟩, (v5 a ha').1, ?_⟩
    · intro t ht
      rw [ce (43 + 7 * a) _ (by omega)]; exact v6 a t ha' (Or.inl ht)
    · intro i hi
      rw [ce (44 + 7 * a) _ (by omega), ce (45 + 7 * a) _ (by omega)]; exact (v1 a i ha' hi).1
    · rw [ce (39 + 7 * a) _ (by omega)]; exact (v2 a ha').1
    · obtain ⟨s, -, ⟨-, q⟩, -⟩ := w15 a ha'
      rw [ce (39 + 7 * a) _ (by omega)]; exact q
    · obtain ⟨s, -, ⟨q, -⟩, -⟩ := w15 a ha'
      rw [ce (39 + 7 * a) _ (by omega)]; exact q
    · intro b hb hb8
      rw [ce 129 1 (by decide), e1] at hb
      rw [ce (133 + a) _ (by omega)]; exact (v5 a ha').2 b (by omega)
  · intro a i ha ha8 hi
    rw [ce 129 1 (by decide), e1] at ha
    have := cN_le (P := fun x => decide (rk x i < rk a i)) 8
    refine ⟨Nat.le_trans this (by decide), ?_⟩
    obtain ⟨-, g, -⟩ := v1 a i (by omega) hi
    rcases g with g | ⟨b, b1, b2, b3, -⟩
    · exact Or.inl g
    · refine Or.inr ⟨b, b2, by rw [ce 129 1 (by decide), e1]; omega, ?_⟩
      refine cN_lt (x := b) 8 (fun x _ hx => ?_) (by omega) (decide_eq_true b3) (decide_eq_false (by omega))
      rw [decide_eq_true_eq] at hx ⊢
      omega
  · intro s hs
    obtain ⟨g1, g2, g3⟩ := v3 s hs
    obtain ⟨g4, g5⟩ := v4 s hs
    rw [ce 130 _ (by decide), ce 131 _ (by decide)]
    exact ⟨⟨g1, g2, g3⟩, g4, fun i hi => (g5 i hi).1⟩
  · rw [ce 129 6 (by decide)]; exact w4
  · rw [ce 129 6 (by decide)]; omega
  · rw [ce 129 6 (by decide)]; omega
  · intro i hi
    rw [ce 129 6 (by decide)] at hi
    rw [ce 141 i (by decide)]
    exact w5 i hi
theorem c_run : PS_run Inv := by
  intro σ n hok hI hn
  by_cases hk : 0 ≤ n ∧ n ≤ σ 30 5
  · have hI2 := hI
    obtain ⟨k1, k2, k3, k4, k5, k6, k7, k8, k9, k10, k11⟩ := hI2
    have a0 := k6.1
    obtain ⟨A, hA⟩ := Int.eq_ofNat_of_zero_le a0.2.1
    have hA8 : A ≤ 8 := by omega
    obtain ⟨p1, p2, p3, p4, L, N, c, f, cx, cd, q1, q2, q3, q4, q5⟩ := k11
    obtain ⟨τ, hC, oC⟩ := run_cls hI hk hA
    -- the model from the very same state: so the class comes to its end
    have hm0 : MSt σ σ := fun _ _ _ _ => rfl
    obtain ⟨L0, τm0, l1, l2, hM0, -⟩ := run_mdl hI hm0 hk hA
    have hLL : L0 = L := by omega
    subst hLL
    obtain ⟨τ', τx, oL, -, hE0⟩ := ticks_sp (run_base hI hA l1 l2 q3 q4 q5 hC hM0 hm0) (run_bd hI hA q4 q5 hC hM0 hm0)
    have t1 : ∀ k j, ¬ RunC k j → τ' k j = τ k j := fun k j nr => (hE0.1.1.1 k j nr).trans (mix_c k j)
    have hm : MSt σ τ' := fun k j n1 n2 => (t1 k j n1).trans (hC.1 k j n1 n2)
    obtain ⟨L1, τm1, l3, l4, hM, oM⟩ := run_mdl hI hm hk hA
    have hLL1 : L1 = L0 := by omega
    subst hLL1
    obtain ⟨τ2, τm2, oL2, oM2, hE⟩ := ticks_sp (run_base hI hA l3 l4 q3 q4 q5 hC hM hm) (run_bd hI hA q4 q5 hC hM hm)
    have h22 : τ2 = τ' := Option.some.inj (oL2.symm.trans oL)
    subst h22
    have t2 : ∀ k j, ¬ RunM k j → τm2 k j = τm1 k j := fun k j nr => (hE.1.1.2 k j nr).trans (mix_m k j)
    have ce : ∀ k j, k < 170 → τm2 k j = τ2 k j := fun k j hk => by
      rw [t2 k j (by unfold RunM; omega)]
      exact hM.1 k j (by unfold RunM; omega) (by omega)
    have hw : ∀ k j, k < 1000 → wrb k j = false → τm2 k j = σ k j := fun k j h1 h2 => by
      obtain ⟨⟨n1, n2⟩, n3, n4⟩ := wrb_no h2
      rw [t2 k j n3, hM.1 k j n3 n4]
      exact hm k j n1 n2
    refine ⟨τ2 129 13, τ2, τm2, ?_, ?_, ?_⟩
    · rw [oC, oL, bnd_s]
    · rw [oM, oM2, bnd_s, hE.1.2.1.2]
    · refine ⟨keepF dep_iTown hw (by decide +kernel) k1, keepF dep_iNear hw (by decide +kernel) k2, keepF dep_iTape hw (by decide +kernel) k3, keepF dep_iPlace hw (by decide +kernel) k4, keepF dep_iKeys hw (by decide +kernel) k5, keepF dep_iAg hw (by decide +kernel) k6, keepF dep_iBook hw (by decide +kernel) k7, keepF dep_iCan hw (by decide +kernel) k8, keepF dep_iFeed hw (by decide +kernel) k9, ?_, keepF dep_iProg hw (by decide +kernel) ⟨p1, p2, p3, p4, L1, N, c, f, cx, cd, q1, q2, q3, q4, q5⟩⟩
      refine run_inv hA8 hE ce ?_ ?_ ?_ ?_
      · rw [t1 _ _ (by unfold RunC; omega)]; exact hC.2.1.1
      · rw [t1 _ _ (by unfold RunC; omega)]; exact hC.2.1.2.1
      · rw [t2 _ _ (by unfold RunM; omega)]; exact hM.2.1.1
      · rw [t1 _ _ (by unfold RunC; omega), hC.1 _ _ (by unfold RunC; omega) (by omega)]; exact hA
  · refine ⟨-1, σ, up σ 170 0 0, ?_, ?_, inv_thr hI⟩
    · rw [m_X11_run, isKnow_eq, if_neg hk, bnd_s, if_pos rfl]
    · have b0 := hI.2.2.2.2.2.2.1.1
      have e41 : (up σ 170 0 0) 170 41 = σ 30 5 := by rw [up_slot (by omega), b0.1]
      rw [m_X12_run, pt_s, bnd_s, m_isKnown_eq, e41, if_neg hk, bnd_s, if_pos rfl]
