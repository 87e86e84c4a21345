/-! the same ends, in the model -/
theorem f_mono {σ : St} {k0 L n c : Nat} {f : Nat → Nat} {cx : Nat → List Bool} {cd : Nat → Nat} (hP : PgT σ k0 L n c f cx cd) : ∀ d p, p + d ≤ n → f p + d ≤ f (p + d) := by
  intro d
  induction d with
  | zero => intro p _; exact Nat.le_refl _
  | succ d ih =>
    intro p h
    have h1 := ih p (by omega)
    have h2 := (hP.2.1 (p + d) (by omega)).1
    rw [show p + (d + 1) = p + d + 1 by omega]
    omega
theorem f_bd {σ : St} {k0 L n c : Nat} {f : Nat → Nat} {cx : Nat → List Bool} {cd : Nat → Nat} (hP : PgT σ k0 L n c f cx cd) (hL : L < 2) {p : Nat} (hp : p < n) : f p + 1 ≤ f n ∧ f n ≤ 2000 := by
  have h1 := f_mono hP (n - p) p (by omega)
  rw [show p + (n - p) = n by omega] at h1
  have h2 := hP.1.2.2.2
  omega
theorem FrM_cg {f : Nat → Nat} {τ τ' : St} {a : Nat} {l : List (Nat × Nat)} (h : FrM f τ a l) (h1 : τ' 218 a = τ 218 a) (h2 : τ' 219 = τ 219) (h3 : τ' 220 = τ 220) : FrM f τ' a l := by
  obtain ⟨k1, k2, k3⟩ := h
  refine ⟨h1.trans k1, k2, ?_⟩
  rw [h2, h3]
  exact k3
theorem pass_m {σ τ : St} {L n c a p A d : Nat} {f : Nat → Nat} {cx : Nat → List Bool} {cd : Nat → Nat} {l : List (Nat × Nat)} (hP : PgT σ 22 L n c f cx cd) (hL : L < 2) (h181 : τ 181 = σ 181) (h182 : τ 182 = σ 182) (ha : a < 8) (hp : p < n) (h4 : τ 212 a = (f p : Int)) (hF : FrM f τ a l) (hS : Stk A n cx cd (d + 1) p l) :
    (Stay σ 22 p l → m_X12_passes a τ = some (0, τ)) ∧
    (σ 23 p = 34 → l = [] → m_X12_passes a τ = some (1, up (up τ 211 a 4) 208 a (τ 170 71))) ∧
    (∀ p' l', Past σ 22 n cx cd p l p' l' → Hp (m_X12_passes a τ) (fun q => q.1 = 1 ∧ FrM f q.2 a l' ∧ (q.2 212 a = (f p' : Int) ∨ (q.2 212 a = (f p : Int) + 1 ∧ σ 181 (f p + 1) = 15 ∧ σ 182 (f p + 1) = (f p' : Int) ∧ f p + 1 < f n)) ∧ ∀ k j, ¬ (k = 212 ∧ j = a) → ¬ (k = 218 ∧ j = a) → q.2 k j = τ k j)) := by
  have hfb := f_bd hP hL hp
  obtain ⟨q1, q2, q3, q4⟩ := hP.2.1 p hp
  obtain ⟨r, hMt, hr⟩ := hS
  have eK : σ (22 + 1) p = σ 23 p := rfl
  have e0 : m_X12_passes a τ = m_X12_passes a τ := rfl
  -- the model's word at this step
  have hop : ∀ o : Int, σ 181 (f p) = o → rd τ 181 2000 (f p : Int) = some o := by
    intro o ho
    rw [rd_ok (by omega) (by omega), Int.toNat_natCast, h181, ho]
  have hpc : rd τ 212 8 (a : Int) = some (f p : Int) := by
    rw [rd_ok (by omega) (by omega), Int.toNat_natCast, h4]
  have h218 : ∀ z : Int, τ 218 a = z → rd τ 218 8 (a : Int) = some z := by
    intro z hz
    rw [rd_ok (by omega) (by omega), Int.toNat_natCast, hz]
  have hstay : ∀ o : Int, σ 181 (f p) = o → o ≠ 13 → o ≠ 15 → o ≠ 17 → o ≠ 18 → m_X12_passes a τ = some (0, τ) := by
    intro o ho n1 n2 n3 n4
    rw [m_X12_passes, hpc, bnd_s, hop o ho, bnd_s, if_neg n1, if_neg n2, if_neg n3, if_neg n4]
  have hnoP : ∀ k : Int, σ 23 p = k → k ≠ 31 → k ≠ 32 → k ≠ 33 → k ≠ 34 → ∀ p' l', ¬ Past σ 22 n cx cd p l p' l' := by
    rintro k hk n1 n2 n3 n4 p' l' (⟨h, -⟩ | ⟨h, -⟩ | ⟨h, -⟩ | ⟨h, -⟩) <;> rw [eK, hk] at h
    · exact n1 h
    · exact n2 h
    · exact n3 h
    · exact n4 h
  have plain : ∀ (k o : Int), σ 23 p = k → σ 181 (f p) = o → k ≠ 31 → k ≠ 32 → k ≠ 33 → k ≠ 34 → o ≠ 13 → o ≠ 15 → o ≠ 17 → o ≠ 18 → (Stay σ 22 p l → m_X12_passes a τ = some (0, τ)) ∧
    (σ 23 p = 34 → l = [] → m_X12_passes a τ = some (1, up (up τ 211 a 4) 208 a (τ 170 71))) ∧
    (∀ p' l', Past σ 22 n cx cd p l p' l' → Hp (m_X12_passes a τ) (fun q => q.1 = 1 ∧ FrM f q.2 a l' ∧ (q.2 212 a = (f p' : Int) ∨ (q.2 212 a = (f p : Int) + 1 ∧ σ 181 (f p + 1) = 15 ∧ σ 182 (f p + 1) = (f p' : Int) ∧ f p + 1 < f n)) ∧ ∀ k j, ¬ (k = 212 ∧ j = a) → ¬ (k = 218 ∧ j = a) → q.2 k j = τ k j)) := by
    intro k o hk ho n1 n2 n3 n4 m1 m2 m3 m4
    exact ⟨fun _ => hstay o ho m1 m2 m3 m4, fun h => absurd (hk.symm.trans h) n4, fun p' l' h => absurd h (hnoP k hk n1 n2 n3 n4 p' l')⟩
  rcases q4 with ⟨k, o, m, hk, e, e1, -⟩ | ⟨e, e1, -⟩ | ⟨e, e1, -⟩ | ⟨e, e1, e2, e3, t, e4, e5, e6⟩ | ⟨-, e, e1, -⟩ | ⟨e, e1, -⟩ | ⟨e, e1, t, e2, e3, e4⟩ | ⟨e, e1, rr, t, e2, e3, e4, e5⟩ | ⟨e, e1, e2⟩
  · exact plain k o e e1 (by omega) (by omega) (by omega) (by omega) (by omega) (by omega) (by omega) (by omega)
  · exact plain 3 11 e e1 (by decide) (by decide) (by decide) (by decide) (by decide) (by decide) (by decide) (by decide)
  · exact plain 13 12 e e1 (by decide) (by decide) (by decide) (by decide) (by decide) (by decide) (by decide) (by decide)
  · -- a loop's end
    rw [eK] at e
    rw [e3] at hMt
    obtain ⟨v, l0, hl, hv1, hv2, hMt'⟩ := hMt
    subst hl
    obtain ⟨m1, m2, m3, m4, m5⟩ := pop_m hF
    have hmv : mvl f (1, v) = (v : Int) := by unfold mvl; rw [if_neg (show ¬ ((1 : Nat) = 0) by decide)]
    have hrd : rd τ 220 512 (wr (wr (wr (64 * (a : Int)) + ((l0.length : Int) + 1)) - 1)) = some (v : Int) := by
      rw [wr_id' (x := 64 * (a : Int)) (by omega) (by omega), wr_id' (x := 64 * (a : Int) + ((l0.length : Int) + 1)) (by omega) (by omega), wr_id' (by omega) (by omega), rd_ok (by omega) (by omega), show (64 * (a : Int) + ((l0.length : Int) + 1) - 1).toNat = 64 * a + l0.length by omega, m5, hmv]
    refine ⟨?_, fun h => absurd (e.symm.trans h) (by decide), ?_⟩
    · rintro (⟨h, -⟩ | ⟨-, v', l', hl, hv⟩)
      · exact absurd e h
      · have hvv : v' = v := by
          have := (List.cons.inj hl).1
          exact (congrArg Prod.snd this).symm
        rw [m_X12_passes, hpc, bnd_s, hop 13 e1, bnd_s, if_pos rfl, h218 _ m2, bnd_s]
        simp only [vl]
        rw [bnd_s, hrd, bnd_s, if_neg (by omega)]
    · rintro p' l' (⟨-, hl, hp'⟩ | ⟨h, -⟩ | ⟨h, -⟩ | ⟨h, -⟩)
      · have hv : v = 1 := congrArg Prod.snd (List.cons.inj hl).1
        have hl' : l0 = l' := (List.cons.inj hl).2
        subst hl'; subst hp'; subst hv
        rw [m_X12_passes, hpc, bnd_s, hop 13 e1, bnd_s, if_pos rfl, h218 _ m2, bnd_s]
        simp only [vl]
        rw [bnd_s, hrd, bnd_s, if_pos (by decide), bnd_s, wr_id' (x := (l0.length : Int) + 1 - 1) (by omega) (by omega), show (l0.length : Int) + 1 - 1 = (l0.length : Int) by omega, Hp_bind, Hp_wt]
        refine ⟨by omega, ?_⟩
        rw [Int.toNat_natCast, rd_ok (by omega) (by omega), bnd_s, Int.toNat_natCast, up_cell (by decide), h4, wr_id' (by omega) (by omega), Hp_bind, Hp_wt]
        refine ⟨by omega, ?_⟩
        rw [Int.toNat_natCast, Hp_some]
        refine ⟨rfl, FrM_cg m1 (by simp only; rw [up_cell (by decide)]) (by simp only; rw [up_ne 219 (by decide)]) (by simp only; rw [up_ne 220 (by decide)]), Or.inl ?_, ?_⟩
        · simp only
          rw [up_eq, e2.2.1]; omega
        · intro k j n1 n2
          simp only
          by_cases hk : k = 212
          · subst hk
            rw [up_slot (by omega), up_cell (by decide)]
          · rw [up_cell hk]
            by_cases hk2 : k = 218
            · subst hk2
              rw [up_slot (by omega)]
            · rw [up_cell hk2]
      · exact absurd (e.symm.trans h) (by decide)
      · exact absurd (e.symm.trans h) (by decide)
      · exact absurd (e.symm.trans h) (by decide)
  · exact plain 9 14 e e1 (by decide) (by decide) (by decide) (by decide) (by decide) (by decide) (by decide) (by decide)
  · exact plain 15 16 e e1 (by decide) (by decide) (by decide) (by decide) (by decide) (by decide) (by decide) (by decide)
  · -- a jump
    rw [eK] at e
    refine ⟨?_, fun h => absurd (e.symm.trans h) (by decide), ?_⟩
    · rintro (⟨-, h, -⟩ | ⟨h, -⟩)
      · exact absurd e h
      · exact absurd (e.symm.trans h) (by decide)
    · rintro p' l' (⟨h, -⟩ | ⟨-, hl, t', ht', hp'⟩ | ⟨h, -⟩ | ⟨h, -⟩)
      · exact absurd (e.symm.trans h) (by decide)
      · have htt : t' = t := by
          have h1 := ht'.1
          have h2 := e2.1
          omega
        subst hl; subst hp'; subst htt
        rw [m_X12_passes, hpc, bnd_s, hop 15 e1, bnd_s, if_neg (by decide), if_pos rfl, rd_ok (by omega) (by omega), bnd_s, Int.toNat_natCast, h182, e4, Hp_bind, Hp_wt]
        refine ⟨by omega, ?_⟩
        rw [Int.toNat_natCast, Hp_some]
        refine ⟨rfl, FrM_cg hF (by simp only; rw [up_cell (by decide)]) (by simp only; rw [up_ne 219 (by decide)]) (by simp only; rw [up_ne 220 (by decide)]), Or.inl (by simp only; rw [up_eq]), ?_⟩
        intro k j n1 n2
        simp only
        by_cases hk : k = 212
        · subst hk
          rw [up_slot (by omega)]
        · rw [up_cell hk]
      · exact absurd (e.symm.trans h) (by decide)
      · exact absurd (e.symm.trans h) (by decide)
  · -- the end of a meet's first deeds
    rw [eK] at e
    rw [e2] at hMt
    obtain ⟨v, l0, hl, hv1, hMt'⟩ := hMt
    subst hl
    obtain ⟨m1, m2, m3, m4, m5⟩ := pop_m hF
    refine ⟨?_, fun h => absurd (e.symm.trans h) (by decide), ?_⟩
    · rintro (⟨-, -, h, -⟩ | ⟨h, -⟩)
      · exact absurd e h
      · exact absurd (e.symm.trans h) (by decide)
    · rintro p' l' (⟨h, -⟩ | ⟨h, -⟩ | ⟨-, ⟨v', hl⟩, r', t', hx', ht', hp'⟩ | ⟨h, -⟩)
      · exact absurd (e.symm.trans h) (by decide)
      · exact absurd (e.symm.trans h) (by decide)
      · have hl' : l0 = l' := (List.cons.inj hl).2
        have htt : t' = t := by
          have h1 := ht'.1
          have h2 := e3.1
          omega
        subst hl'; subst hp'; subst htt
        rw [m_X12_passes, hpc, bnd_s, hop 17 e1, bnd_s, if_neg (by decide), if_neg (by decide), if_pos rfl, h218 _ m2, bnd_s, wr_id' (x := (l0.length : Int) + 1 - 1) (by omega) (by omega), show (l0.length : Int) + 1 - 1 = (l0.length : Int) by omega, Hp_bind, Hp_wt]
        refine ⟨by omega, ?_⟩
        rw [Int.toNat_natCast, rd_ok (by omega) (by omega), bnd_s, Int.toNat_natCast, up_cell (by decide), h4, wr_id' (by omega) (by omega), Hp_bind, Hp_wt]
        refine ⟨by omega, ?_⟩
        rw [Int.toNat_natCast, Hp_some]
        refine ⟨rfl, FrM_cg m1 (by simp only; rw [up_cell (by decide)]) (by simp only; rw [up_ne 219 (by decide)]) (by simp only; rw [up_ne 220 (by decide)]), ?_, ?_⟩
        · simp only
          rw [up_eq]
          rcases e5 with ⟨g1, g2⟩ | ⟨g1, g2, g3⟩
          · left
            rw [g1, g2]; omega
          · right
            exact ⟨rfl, g1, g2, g3⟩
        · intro k j n1 n2
          simp only
          by_cases hk : k = 212
          · subst hk
            rw [up_slot (by omega), up_cell (by decide)]
          · rw [up_cell hk]
            by_cases hk2 : k = 218
            · subst hk2
              rw [up_slot (by omega)]
            · rw [up_cell hk2]
      · exact absurd (e.symm.trans h) (by decide)
  · -- a code's end
    rw [eK] at e
    rw [e2] at hMt
    have hlr : l = r := hMt
    subst hlr
    refine ⟨?_, ?_, ?_⟩
    · rintro (⟨-, -, -, h⟩ | ⟨h, -⟩)
      · exact absurd e h
      · exact absurd (e.symm.trans h) (by decide)
    · intro _ hl
      subst hl
      have h0 : τ 218 a = 0 := by have := hF.1; simpa using this
      rw [m_X12_passes, hpc, bnd_s, hop 18 e1, bnd_s, if_neg (by decide), if_neg (by decide), if_neg (by decide), if_pos rfl, h218 _ h0, bnd_s, if_pos rfl, wt_ok (by omega) (by omega), bnd_s, Int.toNat_natCast, wt_ok (by omega) (by omega), bnd_s, Int.toNat_natCast, up_cell (by decide)]
    · rintro p' l' (⟨h, -⟩ | ⟨h, -⟩ | ⟨h, -⟩ | ⟨-, hl⟩)
      · exact absurd (e.symm.trans h) (by decide)
      · exact absurd (e.symm.trans h) (by decide)
      · exact absurd (e.symm.trans h) (by decide)
      · subst hl
        obtain ⟨m1, m2, m3, m4, m5⟩ := pop_m hF
        have hmv : mvl f (0, p') = (f p' : Int) := by unfold mvl; rw [if_pos rfl]
        rw [m_X12_passes, hpc, bnd_s, hop 18 e1, bnd_s, if_neg (by decide), if_neg (by decide), if_neg (by decide), if_pos rfl, h218 _ m2, bnd_s, if_neg (by omega), bnd_s, wr_id' (x := (l'.length : Int) + 1 - 1) (by omega) (by omega), show (l'.length : Int) + 1 - 1 = (l'.length : Int) by omega, Hp_bind, Hp_wt]
        refine ⟨by omega, ?_⟩
        rw [Int.toNat_natCast, rd_ok (by omega) (by omega), bnd_s, Int.toNat_natCast, up_eq, wr_id' (x := 64 * (a : Int)) (by omega) (by omega), wr_id' (x := 64 * (a : Int) + (l'.length : Int)) (by omega) (by omega), rd_ok (by omega) (by omega), bnd_s, show (64 * (a : Int) + (l'.length : Int)).toNat = 64 * a + l'.length by omega, up_cell (by decide), m5, hmv, Hp_bind, Hp_wt]
        refine ⟨by omega, ?_⟩
        rw [Int.toNat_natCast, Hp_some]
        refine ⟨rfl, FrM_cg m1 (by simp only; rw [up_cell (by decide)]) (by simp only; rw [up_ne 219 (by decide)]) (by simp only; rw [up_ne 220 (by decide)]), Or.inl (by simp only; rw [up_eq]), ?_⟩
        intro k j n1 n2
        simp only
        by_cases hk : k = 212
        · subst hk
          rw [up_slot (by omega), up_cell (by decide)]
        · rw [up_cell hk]
          by_cases hk2 : k = 218
          · subst hk2
            rw [up_slot (by omega)]
          · rw [up_cell hk2]
