/-! the class's rows of places -/
/-- the bits of x are those of P -/
def Bs (x : Int) (P : Nat → Prop) : Prop := InI x ∧ ∀ s, (tb x s = true ↔ P s)
theorem Bs_cg {x : Int} {P Q : Nat → Prop} (h : Bs x P) (hq : ∀ s, P s ↔ Q s) : Bs x Q := ⟨h.1, fun s => (h.2 s).trans (hq s)⟩
theorem Bs_or {x y : Int} {P Q : Nat → Prop} (h : Bs x P) (h' : Bs y Q) : Bs (orI x y) (fun s => P s ∨ Q s) := ⟨orI_in _ _, fun s => by rw [tb_or, Bool.or_eq_true, h.2 s, h'.2 s]⟩
theorem Bs_and {x y : Int} {P Q : Nat → Prop} (h : Bs x P) (h' : Bs y Q) : Bs (andI x y) (fun s => P s ∧ Q s) := ⟨andI_in _ _, fun s => by rw [tb_and, Bool.and_eq_true, h.2 s, h'.2 s]⟩
theorem Bs_zero : Bs 0 (fun _ => False) := ⟨⟨by decide, by decide⟩, fun s => by rw [tb_zero]; simp⟩
theorem Bs_bit {i : Nat} (h : i < 32) : Bs (shlI 1 (i : Int)) (fun s => s = i) := ⟨shlI_in _ _, fun s => by rw [tb_bit h]; simp⟩
theorem Bs_zero_iff {x : Int} {P : Nat → Prop} (h : Bs x P) (hP : ∀ s, P s → s < 32) : x = 0 ↔ ∀ s, ¬ P s := by
  rw [eq_zero_iff h.1]
  constructor
  · intro q s hs
    have := q s (hP s hs)
    rw [(h.2 s).mpr hs] at this
    exact absurd this (by decide)
  · intro q i _
    cases hb : tb x i with
    | false => rfl
    | true => exact absurd ((h.2 i).mp hb) (q i)
theorem Bs_bit1 {x : Int} {P : Nat → Prop} (h : Bs x P) {i : Nat} (hi : i < 32) : (P i → andI (shrI x (i : Int)) 1 = 1) ∧ (¬ P i → andI (shrI x (i : Int)) 1 = 0) := by
  rw [bit_at x hi]
  constructor
  · intro q; rw [if_pos ((h.2 i).mpr q)]
  · intro q; rw [if_neg (fun r => q ((h.2 i).mp r))]
theorem allS : ∀ n : Fin 11, wr (shlI 1 (n.val : Int) - 1) = ((2 ^ n.val - 1 : Nat) : Int) := by decide
theorem Bs_all {n : Nat} (h : n ≤ 10) : Bs (wr (shlI 1 (n : Int) - 1)) (fun s => s < n) := by
  refine ⟨wr_in _, ?_⟩
  intro s
  rw [allS ⟨n, by omega⟩]
  by_cases hs : s < 32
  · rw [tb_nat _ _ hs]
    simp only [Nat.testBit_two_pow_sub_one]
    simp
  · rw [tb_hi _ (by omega)]
    simp; omega
theorem all_eq {τ : St} : m_X10_allSpots τ = some (wr (shlI 1 (τ 1 4) - 1)) := by rw [m_X10_allSpots]
theorem across_sp {σ τ : St} (hT : iTown σ) (h2 : τ 2 = σ 2) (h3 : τ 3 = σ 3) {w : Nat} (hw : (w : Int) < σ 1 5) {m : Int} {P : Nat → Prop} (hm : Bs m P) : ∃ v, m_X10_across w m τ = some v ∧ Bs v (fun s => ∃ o : Nat, ((σ 2 w = s ∧ σ 3 w = o) ∨ (σ 2 w = o ∧ σ 3 w = s)) ∧ P o) := by
  have t := hT.2.1
  obtain ⟨A, B, l, e2, e3, -, -, -, -, hA, hB, -⟩ := town_way hT hw
  rw [m_X10_across, rd_ok (by omega) (by omega), bnd_s, rd_ok (by omega) (by omega), bnd_s, bnd_s, bnd_s]
  simp only [Int.toNat_natCast]
  rw [h2, h3, e2, e3]
  refine ⟨_, rfl, ?_⟩
  have key : ∀ X Y : Nat, X < 10 → Y < 10 → Bs (shlI (andI (shrI m (X : Int)) 1) (Y : Int)) (fun s => s = Y ∧ P X) := by
    intro X Y hX hY
    rw [bit_at m (by omega)]
    by_cases hp : P X
    · rw [if_pos ((hm.2 X).mpr hp)]
      exact Bs_cg (Bs_bit (by omega)) (fun s => by simp [hp])
    · rw [if_neg (fun r => hp ((hm.2 X).mp r))]
      refine ⟨shlI_in _ _, ?_⟩
      intro s
      rw [tb_shl _ (by omega), tb_zero]
      simp [hp]
  refine Bs_cg (Bs_or (key A B hA hB) (key B A hB hA)) ?_
  intro s
  constructor
  · rintro (⟨rfl, hp⟩ | ⟨rfl, hp⟩)
    · exact ⟨A, Or.inr ⟨rfl, rfl⟩, hp⟩
    · exact ⟨B, Or.inl ⟨rfl, rfl⟩, hp⟩
  · rintro ⟨o, (⟨q1, q2⟩ | ⟨q1, q2⟩), hp⟩
    · have h1 : s = A := by omega
      have h2 : o = B := by omega
      subst h1; subst h2; exact Or.inr ⟨rfl, hp⟩
    · have h1 : s = B := by omega
      have h2 : o = A := by omega
      subst h1; subst h2; exact Or.inl ⟨rfl, hp⟩
/-- tau is sigma, its book looked at for n facts; rows and rumours apart -/
def KN (σ τ : St) (n : Int) : Prop := Wr ([(36, 37), (97, 104), (106, 117), (154, 154), (156, 163), (165, 165)], [(30, 6)]) σ τ ∧ τ 30 6 = n ∧
  (∀ f : Nat, f < 150 → (τ 36 f = 1 ∨ τ 36 f = 0) ∧ (τ 36 f = 1 ↔ Strk σ n f)) ∧
  (∀ t : Nat, t < 96 → Bs (τ 37 t) (fun s => Wtch σ n s t))
theorem KN_look {σ τ : St} {n : Int} (h : LookP σ τ n) : KN σ τ n := ⟨Wr_sb h.1 rfl, h.2.1, h.2.2.1, fun t ht => ⟨(h.2.2.2 t ht).1, (h.2.2.2 t ht).2⟩⟩
theorem KN_step {σ τ τ' : St} {n : Int} (h : KN σ τ n) (hw : Wr ([(97, 104), (106, 117), (154, 154), (156, 163)], []) τ τ') : KN σ τ' n := by
  obtain ⟨h1, h2, h3, h4⟩ := h
  refine ⟨Wr_tr h1 (Wr_sb hw rfl), (hw 30 6 rfl).trans h2, ?_, ?_⟩
  · intro f hf; rw [hw 36 f rfl]; exact h3 f hf
  · intro t ht; rw [hw 37 t rfl]; exact h4 t ht
theorem KN_holds {σ τ : St} {n : Int} (hB : iBook σ) (hn : 0 ≤ n ∧ n ≤ σ 30 5) (h : KN σ τ n) {i : Nat} (hi : (i : Int) < n) (k : Int) :
    ∃ b, m_X1_holds i k τ = some b ∧ (b = 0 ∨ b = 1) ∧ (b = 1 ↔ σ 195 i = k ∧ ¬ Strk σ n i) := by
  have b0 := hB.1
  obtain ⟨b1, b2, b3, -⟩ := book_at hB (i := i) (by omega)
  have e1 : τ 31 = σ 31 := funext fun j => h.1 31 j rfl
  have e2 : τ 30 5 = σ 30 5 := h.1 30 5 rfl
  have e3 := h.2.2.1 i b1
  have h6 := h.2.1
  rw [m_X1_holds, isFactOf_eq (by omega), bnd_s]
  have hc : 0 ≤ (i : Int) ∧ (i : Int) < τ 30 6 ∧ (i : Int) < τ 30 5 := by omega
  simp only [if_pos hc, Int.reduceEq, if_false]
  rw [rd_ok (by omega) (by omega), rd_ok (by omega) (by omega), bnd_s, bnd_s]
  simp only [Int.toNat_natCast]
  rw [e1, b2]
  by_cases hk : σ 31 i = k
  · rw [if_pos hk]
    by_cases hz : τ 36 i = 0
    · refine ⟨1, by rw [if_pos hz], Or.inr rfl, ?_⟩
      have : ¬ Strk σ n i := fun q => by
        have := e3.2.mpr q
        omega
      exact ⟨fun _ => ⟨hk, this⟩, fun _ => rfl⟩
    · refine ⟨0, by rw [if_neg hz], Or.inl rfl, ?_⟩
      have : Strk σ n i := e3.2.mp (by omega)
      exact ⟨fun q => absurd q (by decide), fun q => absurd this q.2⟩
  · refine ⟨0, by rw [if_neg hk], Or.inl rfl, ?_⟩
    exact ⟨fun q => absurd q (by decide), fun q => absurd q.1 hk⟩
theorem q_f (j : Int) (τ : St) : m_X6_noteSights_L2 j τ = if (96 : Int) ≤ j then some (.inr τ) else (wt τ 114 96 j (-1)).bind fun τ' => some (.inl (wr (j + 1), τ')) := by rw [m_X6_noteSights_L2]
theorem note_sp {σ τ : St} {n : Int} {a : Nat} (hB : iBook σ) (hs10 : σ 1 4 ≤ 10) (hn : 0 ≤ n ∧ n ≤ σ 30 5) (h : KN σ τ n) : Hp (m_X6_noteSights a τ) (fun τ' => Wr ([(114, 114)], []) τ τ' ∧ ∀ t : Nat, t < 96 → InI (τ' 114 t) ∧ ∀ s : Nat, s < 32 → (tb (τ' 114 t) s = true ↔ ∀ k, Sgt σ n a t k → σ 197 k = s)) := by
  have b0 := hB.1
  obtain ⟨τ1, o1, w1, z1⟩ := fill_sp (f := fun a => m_X6_noteSights_L2 a.1 a.2) (σ := τ) (c := 114) (N := 96) (NI := 96) (v := -1) (by omega) (by omega) q_f
  rw [m_X6_noteSights, o1, bnd_s, Hp_bind]
  simp only [Hp_some]
  refine Hp_up (fun j (z : Int × St) => z.1 = (j : Int) ∧ Wr ([(114, 114)], []) τ z.2 ∧ ∀ t : Nat, t < 96 → InI (z.2 114 t) ∧ ∀ s : Nat, s < 32 → (tb (z.2 114 t) s = true ↔ ∀ k, k < j → Sgt σ n a t k → σ 197 k = s)) 0 n.toNat (by omega) (by omega) ⟨rfl, w1, ?_⟩ ?_ ?_
  · intro t ht
    simp only
    rw [z1 t ht]
    refine ⟨⟨by decide, by decide⟩, ?_⟩
    intro s hs
    rw [tb_m1]
    simp [hs]
  · rintro j ⟨x, ρ⟩ - h2 ⟨e1, e2, e3⟩
    simp only at e1 e2 e3
    subst e1
    have hnx : wr ((j : Int) + 1) = ((j + 1 : Nat) : Int) := by rw [wr_id' (by omega) (by omega)]; omega
    have hK := KN_step h (Wr_sb e2 rfl)
    obtain ⟨b, hb1, hb2, hb3⟩ := KN_holds hB hn hK (i := j) (by omega) 1
    obtain ⟨c1, c2, c3, -, -, c4, -⟩ := book_at hB (i := j) (by omega)
    have f32 : ρ 32 j = σ 32 j := hK.1 32 j rfl
    have f33 : ρ 33 j = σ 33 j := hK.1 33 j rfl
    have f34 : ρ 34 j = σ 34 j := hK.1 34 j rfl
    have hskip : (∀ t, ¬ Sgt σ n a t j) → Lq (fun τ' => Wr ([(114, 114)], []) τ τ' ∧ ∀ t : Nat, t < 96 → InI (τ' 114 t) ∧ ∀ s : Nat, s < 32 → (tb (τ' 114 t) s = true ↔ ∀ k, Sgt σ n a t k → σ 197 k = s)) (fun z => z.1 = ((j + 1 : Nat) : Int) ∧ Wr ([(114, 114)], []) τ z.2 ∧ ∀ t : Nat, t < 96 → InI (z.2 114 t) ∧ ∀ s : Nat, s < 32 → (tb (z.2 114 t) s = true ↔ ∀ k, k < j + 1 → Sgt σ n a t k → σ 197 k = s)) (Sum.inl (wr ((j : Int) + 1), ρ)) := by
      intro hno
      rw [Lq_inl, hnx]
      refine ⟨rfl, e2, ?_⟩
      intro t ht
      refine ⟨(e3 t ht).1, ?_⟩
      intro s hs
      rw [(e3 t ht).2 s hs]
      constructor
      · intro q k hk hS
        by_cases hkj : k = j
        · subst hkj; exact absurd hS (hno t)
        · exact q k (by omega) hS
      · intro q k hk hS; exact q k (by omega) hS
    simp only [m_X6_noteSights_L23]
    rw [if_neg (by have := hK.2.1; omega), hb1, bnd_s]
    by_cases hz : b = 0
    · rw [if_pos hz, Hp_some]
      refine hskip (fun t q => ?_)
      have := hb3.mpr ⟨q.2.1, q.2.2.2.1⟩
      omega
    · have hb4 := hb3.mp (by omega)
      have c5 := c4 (by omega)
      rw [if_neg hz, rd_ok (by omega) (by omega), bnd_s, Int.toNat_natCast, f32]
      by_cases hw : σ 32 j = a
      · rw [if_pos hw, rd_ok (by omega) (by omega), bnd_s, Int.toNat_natCast, f34, isTick_eq, bnd_s]
        obtain ⟨d, hd⟩ := Int.eq_ofNat_of_zero_le c5.2.2.1
        obtain ⟨sp, hsp⟩ := Int.eq_ofNat_of_zero_le c5.1.2.1
        have hc : 0 ≤ σ 34 j ∧ σ 34 j < 96 := by omega
        simp only [if_pos hc, Int.reduceEq, if_false]
        rw [bnd_s, hd, rd_ok (by omega) (by omega), bnd_s, rd_ok (by omega) (by omega), bnd_s, Hp_bind, Hp_wt]
        refine ⟨by omega, ?_⟩
        simp only [Int.toNat_natCast]
        rw [Hp_some, Lq_inl, hnx, f33, hsp]
        refine ⟨rfl, Wr_up e2 rfl, ?_⟩
        have hSj : ∀ t, Sgt σ n a t j ↔ t = d := by
          intro t
          constructor
          · rintro ⟨-, -, -, -, q⟩; omega
          · rintro rfl
            exact ⟨by omega, hb4.1, by omega, hb4.2, by omega⟩
        intro t ht
        simp only
        by_cases htd : t = d
        · subst htd
          rw [up_eq]
          refine ⟨andI_in _ _, ?_⟩
          intro s hs
          rw [tb_and, Bool.and_eq_true, (e3 t ht).2 s hs, tb_bit (by omega), decide_eq_true_eq]
          constructor
          · rintro ⟨q1, q2⟩ k hk hS
            by_cases hkj : k = j
            · subst hkj; omega
            · exact q1 k (by omega) hS
          · intro q
            refine ⟨fun k hk hS => q k (by omega) hS, ?_⟩
            have := q j (by omega) ((hSj t).mpr rfl)
            omega
        · rw [up_slot htd]
          refine ⟨(e3 t ht).1, ?_⟩
          intro s hs
          rw [(e3 t ht).2 s hs]
          constructor
          · intro q k hk hS
            by_cases hkj : k = j
            · subst hkj; exact absurd ((hSj t).mp hS) htd
            · exact q k (by omega) hS
          · intro q k hk hS; exact q k (by omega) hS
      · rw [if_neg hw, Hp_some]
        refine hskip (fun t q => ?_)
        exact hw (by have := q.2.2.1; omega)
  · rintro ⟨x, ρ⟩ ⟨e1, e2, e3⟩
    simp only at e1 e2 e3
    subst e1
    have hK := KN_step h (Wr_sb e2 rfl)
    simp only [m_X6_noteSights_L23]
    rw [if_pos (by have := hK.2.1; omega), Hp_some, Lq_inr]
    refine ⟨e2, ?_⟩
    intro t ht
    refine ⟨(e3 t ht).1, ?_⟩
    intro s hs
    rw [(e3 t ht).2 s hs]
    constructor
    · intro q k hS
      exact q k (by have := hS.1; omega) hS
    · intro q k hk hS; exact q k hS
/-- v is the least tick from j on in which a is seen; 1000 if there is none -/
def NxF (σ : St) (n : Int) (a j : Nat) (v : Int) : Prop := (v = 1000 ∧ ∀ d, j ≤ d → d < 96 → ¬ Sgtd σ n a d) ∨ (∃ v' : Nat, v = v' ∧ j ≤ v' ∧ v' < 96 ∧ Sgtd σ n a v' ∧ ∀ d, j ≤ d → d < v' → ¬ Sgtd σ n a d)
theorem seen_iff {σ : St} {n : Int} {a t : Nat} {x : Int} (h : InI x ∧ ∀ s : Nat, s < 32 → (tb x s = true ↔ ∀ k, Sgt σ n a t k → σ 197 k = s)) : (x = -1 ↔ ¬ Sgtd σ n a t) := by
  constructor
  · rintro rfl ⟨k, hk⟩
    have h0 := (h.2 0 (by decide)).mp (by rw [tb_m1]; rfl) k hk
    have h1 := (h.2 1 (by decide)).mp (by rw [tb_m1]; rfl) k hk
    omega
  · intro hno
    apply tb_ext h.1 ⟨by decide, by decide⟩
    intro i hi
    rw [tb_m1, (h.2 i hi).mpr (fun k hk => absurd ⟨k, hk⟩ hno)]
    simp [hi]
theorem may_seen {σ : St} {n : Int} {a t : Nat} {x : Int} (hB : iBook σ) (hT : iTown σ) (hn : 0 ≤ n ∧ n ≤ σ 30 5) (h : InI x ∧ ∀ s : Nat, s < 32 → (tb x s = true ↔ ∀ k, Sgt σ n a t k → σ 197 k = s)) (hs : Sgtd σ n a t) : Bs x (May σ n a t) := by
  have t1 := hT.1
  have hsp : ∀ k, Sgt σ n a t k → 0 ≤ σ 197 k ∧ σ 197 k < σ 1 4 := by
    intro k hk
    obtain ⟨b1, b2, b3, -, -, b4, -⟩ := book_at hB (i := k) (by have := hk.1; omega)
    have := b4 (by have := hk.2.1; omega)
    omega
  refine ⟨h.1, ?_⟩
  intro s
  by_cases hs32 : s < 32
  · rw [h.2 s hs32]
    constructor
    · intro q
      obtain ⟨k, hk⟩ := hs
      have := hsp k hk
      have := q k hk
      exact ⟨by omega, Or.inl ⟨⟨k, hk⟩, q⟩⟩
    · rintro ⟨-, (⟨-, q⟩ | ⟨q, -⟩)⟩
      · exact q
      · exact absurd hs q
  · rw [tb_hi _ (by omega)]
    constructor
    · intro q; exact absurd q (by decide)
    · rintro ⟨q, -⟩; omega
theorem may_unseen {σ : St} {n : Int} {a t : Nat} {x : Int} (hT : iTown σ) (hw : Bs x (fun s => Wtch σ n s t)) (hs : ¬ Sgtd σ n a t) : Bs (andI (wr (shlI 1 (σ 1 4) - 1)) (xorI x (-1))) (May σ n a t) := by
  have t1 := hT.1
  obtain ⟨S, hS⟩ := Int.eq_ofNat_of_zero_le t1.2.1
  refine ⟨andI_in _ _, ?_⟩
  intro s
  rw [hS, tb_and, Bool.and_eq_true, (Bs_all (n := S) (by omega)).2 s, tb_xor, tb_m1]
  constructor
  · rintro ⟨q1, q2⟩
    refine ⟨by omega, Or.inr ⟨hs, fun r => ?_⟩⟩
    rw [(hw.2 s).mpr r] at q2
    simp [show s < 32 by omega] at q2
  · rintro ⟨q1, (⟨q, -⟩ | ⟨-, q⟩)⟩
    · exact absurd q hs
    · refine ⟨by omega, ?_⟩
      have : tb x s = false := by
        cases hb : tb x s with
        | false => rfl
        | true => exact absurd ((hw.2 s).mp hb) q
      rw [this]
      simp; omega
