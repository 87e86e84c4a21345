/-! the count of the deeds of a turn is no deed's business -/
def Pc {α : Type} (o : Option α) (Q : α → Prop) : Prop := ∀ a, o = some a → Q a
theorem Pc_some {α : Type} {a : α} {Q : α → Prop} (h : Q a) : Pc (some a) Q := fun b hb => by injection hb with hb; rw [← hb]; exact h
theorem Pc_bind {α β : Type} {o : Option α} {f : α → Option β} {Q : β → Prop} {R : α → Prop} (h1 : Pc o R) (h2 : ∀ a, R a → Pc (f a) Q) : Pc (o.bind f) Q := by
  intro b hb
  cases o with
  | none => exact absurd hb (by simp)
  | some a => exact h2 a (h1 a rfl) b hb
theorem Pc_r {α β : Type} {o : Option α} {f : α → Option β} {Q : β → Prop} (h : ∀ v, Pc (f v) Q) : Pc (o.bind f) Q := Pc_bind (R := fun _ => True) (fun _ _ => trivial) (fun a _ => h a)
theorem Pc_ite {α : Type} {c : Prop} [Decidable c] {x y : Option α} {Q : α → Prop} (h1 : c → Pc x Q) (h2 : ¬ c → Pc y Q) : Pc (if c then x else y) Q := by
  by_cases h : c
  · rw [if_pos h]; exact h1 h
  · rw [if_neg h]; exact h2 h
theorem Pc_wt {β : Type} {σ : St} {k : Nat} {n i x c : Int} {f : St → Option β} {Q : β → Prop} (hσ : σ 170 72 = c) (hk : k ≠ 170) (h : ∀ σ' : St, σ' 170 72 = c → Pc (f σ') Q) : Pc ((wt σ k n i x).bind f) Q := by
  refine Pc_bind (R := fun σ' => σ' 170 72 = c) ?_ h
  intro σ' h'
  unfold wt at h'
  by_cases hi : 0 ≤ i ∧ i < n
  · rw [if_pos hi] at h'
    injection h' with h'
    rw [← h', up_cell (fun q => hk q.symm)]; exact hσ
  · rw [if_neg hi] at h'; exact absurd h' (by simp)
theorem Pc_pt {β : Type} {σ : St} {k j : Nat} {x c : Int} {f : St → Option β} {Q : β → Prop} (hσ : σ 170 72 = c) (hk : k ≠ 170 ∨ j ≠ 72) (h : ∀ σ' : St, σ' 170 72 = c → Pc (f σ') Q) : Pc ((pt σ k j x).bind f) Q := by
  rw [pt_s, bnd_s]
  refine h _ ?_
  by_cases hk' : k = 170
  · subst hk'; rw [up_slot (by omega)]; exact hσ
  · rw [up_cell (fun q => hk' q.symm)]; exact hσ
theorem Pc_lp {α β : Type} {f : α → Option (α ⊕ β)} {Q : β → Prop} (h : ∀ a, Pc (f a) (fun r => ∀ b, r = .inr b → Q b)) {a : α} : Pc (lp f a) Q := by
  have : ∀ N a, Pc (lpN f N a) Q := by
    intro N
    induction N with
    | zero => intro a b hb; exact absurd hb (by simp [lpN])
    | succ N ih =>
      intro a b hb
      unfold lpN at hb
      cases hf : f a with
      | none => rw [hf] at hb; exact absurd hb (by simp)
      | some r =>
        rw [hf] at hb
        cases r with
        | inl a' => exact ih a' b hb
        | inr b' =>
          injection hb with hb
          rw [← hb]; exact h a _ hf b' rfl
  exact this FU a
def K72 (c : Int) (σ : St) : Prop := σ 170 72 = c
theorem k_learns {a b e c : Int} {σ : St} (h : σ 170 72 = c) : Pc (m_X12_learns a b e σ) (fun τ => τ 170 72 = c) := by
  rw [m_X12_learns]
  refine Pc_r fun v => Pc_ite (fun _ => ?_) (fun _ => Pc_some h)
  refine Pc_wt h (by decide) fun σ1 h1 => Pc_wt h1 (by decide) fun σ2 h2 => Pc_pt h2 (by decide) fun σ3 h3 => Pc_some h3
theorem k_pushes {a b e c : Int} {σ : St} (h : σ 170 72 = c) : Pc (m_X12_pushes a b e σ) (fun τ => τ 170 72 = c) := by
  rw [m_X12_pushes]
  refine Pc_r fun v => Pc_wt h (by decide) fun σ1 h1 => Pc_r fun v => Pc_wt h1 (by decide) fun σ2 h2 => Pc_r fun v => Pc_wt h2 (by decide) fun σ3 h3 => Pc_some h3
theorem k_walks {a c : Int} {σ : St} (h : σ 170 72 = c) : Pc (m_X12_walks a σ) (fun τ => τ 170 72 = c) := by
  rw [m_X12_walks]
  refine Pc_r fun v => Pc_r fun v => Pc_r fun v => Pc_r fun v => Pc_r fun v => Pc_wt h (by decide) fun σ1 h1 => Pc_wt h1 (by decide) fun σ2 h2 => Pc_wt h2 (by decide) fun σ3 h3 => Pc_some h3
theorem k_comes {a b c : Int} {σ : St} (h : σ 170 72 = c) : Pc (m_X12_comesAbout a b σ) (fun q => q.2 170 72 = c) := by
  rw [m_X12_comesAbout]
  refine Pc_ite (fun _ => Pc_some h) (fun _ => Pc_ite (fun _ => Pc_some h) (fun _ => Pc_r fun v => Pc_r fun v => Pc_ite (fun _ => Pc_r fun v => Pc_ite (fun _ => Pc_r fun v => Pc_ite (fun _ => ?_) (fun _ => Pc_some h)) (fun _ => Pc_some h)) (fun _ => Pc_some h)))
  refine Pc_wt h (by decide) fun σ1 h1 => Pc_r fun v => Pc_ite (fun _ => Pc_wt h1 (by decide) fun σ2 h2 => Pc_wt h2 (by decide) fun σ3 h3 => Pc_some h3) (fun _ => Pc_some h1)
theorem k_tells {a b c : Int} {σ : St} (h : σ 170 72 = c) : Pc (m_X12_tells a b σ) (fun τ => τ 170 72 = c) := by
  rw [m_X12_tells]
  refine Pc_r fun v => Pc_r fun v => Pc_bind (R := fun b => match b with | .inl () => True | .inr q => q 170 72 = c) (Pc_lp ?_) ?_
  · intro x
    rw [m_X12_tells_L9]
    have hs : ∀ σ' : St, σ' 170 72 = c → Pc (some (.inr (.inr σ')) : Option (Int ⊕ (Unit ⊕ St))) (fun r => ∀ b, r = .inr b → (match b with | .inl () => True | .inr q => q 170 72 = c)) := by
      intro σ' h'
      refine Pc_some ?_
      intro b hb
      injection hb with hb
      rw [← hb]; exact h'
    refine Pc_ite (fun _ => Pc_some ?_) (fun _ => Pc_r fun v => Pc_ite (fun _ => Pc_r fun v => Pc_r fun v => Pc_ite (fun _ => hs σ h) (fun _ => Pc_r fun v => Pc_r fun v => Pc_ite (fun _ => Pc_bind (k_learns h) (fun σ' h' => hs σ' h')) (fun _ => hs σ h))) (fun _ => Pc_some ?_))
    · intro b hb
      injection hb with hb
      rw [← hb]; trivial
    · intro b hb
      exact absurd hb (by simp)
  · intro b hb
    match b with
    | .inl () => exact Pc_some h
    | .inr q => exact Pc_some hb
theorem k_deed {a c : Int} {σ : St} (h : σ 170 72 = c) : Pc (m_X12_deed a σ) (fun τ => τ 170 72 = c) := by
  have k516 : ∀ {x y z w : Int} {σ : St}, σ 170 72 = c → Pc (m_X12_deed_J516 x σ y z w) (fun τ => τ 170 72 = c) := by
    intro x y z w σ h
    rw [m_X12_deed_J516]
    exact Pc_ite (fun _ => Pc_r fun v => Pc_wt h (by decide) fun σ1 h1 => Pc_some h1) (fun _ => Pc_some h)
  have k183 : ∀ {y z : Int} {σ : St}, σ 170 72 = c → Pc (m_X12_deed_J183 σ y z) (fun τ => τ 170 72 = c) := by
    intro y z σ h
    rw [m_X12_deed_J183]
    exact Pc_wt h (by decide) fun σ1 h1 => Pc_r fun v => Pc_ite (fun _ => Pc_some h1) (fun _ => Pc_wt h1 (by decide) fun σ2 h2 => Pc_some h2)
  have k158 : ∀ {x y z : Int} {σ : St}, σ 170 72 = c → Pc (m_X12_deed_J158 σ x y z) (fun τ => τ 170 72 = c) := by
    intro x y z σ h
    rw [m_X12_deed_J158]
    exact Pc_r fun v => Pc_ite (fun _ => k183 h) (fun _ => k183 h)
  rw [m_X12_deed]
  refine Pc_r fun v => Pc_r fun v => Pc_r fun v => Pc_r fun v => Pc_wt h (by decide) fun σ5 h5 => Pc_r fun v => ?_
  refine Pc_ite (fun _ => Pc_ite (fun _ => Pc_some h5) (fun _ => Pc_ite (fun _ => Pc_some h5) (fun _ => Pc_r fun v => Pc_ite (fun _ => Pc_wt h5 (by decide) fun σ6 h6 => Pc_bind (k_walks h6) (fun σ7 h7 => Pc_some h7)) (fun _ => Pc_some h5)))) (fun _ => ?_)
  refine Pc_ite (fun _ => k158 h5) (fun _ => Pc_ite (fun _ => k158 h5) (fun _ => ?_))
  refine Pc_ite (fun _ => Pc_r fun v => Pc_wt h5 (by decide) fun σ6 h6 => Pc_some h6) (fun _ => ?_)
  refine Pc_ite (fun _ => Pc_r fun v => Pc_wt h5 (by decide) fun σ6 h6 => Pc_some h6) (fun _ => ?_)
  refine Pc_ite (fun _ => Pc_r fun v => Pc_ite (fun _ => Pc_some h5) (fun _ => Pc_r fun v => Pc_wt h5 (by decide) fun σ6 h6 => Pc_some h6)) (fun _ => ?_)
  refine Pc_ite (fun _ => Pc_r fun v => Pc_ite (fun _ => Pc_some h5) (fun _ => Pc_r fun v => Pc_wt h5 (by decide) fun σ6 h6 => Pc_wt h6 (by decide) fun σ7 h7 => Pc_some h7)) (fun _ => ?_)
  refine Pc_ite (fun _ => Pc_r fun v => Pc_ite (fun _ => Pc_some h5) (fun _ => Pc_wt h5 (by decide) fun σ6 h6 => Pc_r fun v => Pc_wt h6 (by decide) fun σ7 h7 => Pc_bind (k_learns h7) (fun σ8 h8 => Pc_some h8))) (fun _ => ?_)
  refine Pc_ite (fun _ => Pc_r fun v => Pc_wt h5 (by decide) fun σ6 h6 => Pc_some h6) (fun _ => ?_)
  refine Pc_ite (fun _ => Pc_bind (k_tells h5) (fun σ8 h8 => Pc_some h8)) (fun _ => ?_)
  refine Pc_ite (fun _ => Pc_wt h5 (by decide) fun σ6 h6 => Pc_wt h6 (by decide) fun σ7 h7 => Pc_some h7) (fun _ => ?_)
  refine Pc_ite (fun _ => Pc_r fun v => Pc_bind (k_pushes h5) (fun σ6 h6 => Pc_r fun v => Pc_wt h6 (by decide) fun σ7 h7 => Pc_some h7)) (fun _ => ?_)
  refine Pc_ite (fun _ => Pc_ite (fun _ => Pc_r fun v => Pc_wt h5 (by decide) fun σ6 h6 => Pc_some h6) (fun _ => Pc_bind (k_pushes h5) (fun σ6 h6 => Pc_some h6))) (fun _ => ?_)
  refine Pc_ite (fun _ => Pc_r fun v => Pc_r fun v => Pc_wt h5 (by decide) fun σ6 h6 => Pc_wt h6 (by decide) fun σ7 h7 => Pc_some h7) (fun _ => ?_)
  refine Pc_ite (fun _ => Pc_r fun v => Pc_r fun v => Pc_r fun v => Pc_r fun v => Pc_ite (fun _ => k516 h5) (fun _ => k516 h5)) (fun _ => ?_)
  refine Pc_wt h5 (by decide) fun σ6 h6 => Pc_r fun v => Pc_wt h6 (by decide) fun σ7 h7 => Pc_bind (k_comes h7) ?_
  rintro ⟨x, σ8⟩ h8
  have h8' : σ8 170 72 = c := h8
  exact Pc_ite (fun _ => Pc_r fun v => Pc_ite (fun _ => Pc_r fun v => Pc_wt h8' (by decide) fun σ9 h9 => Pc_some h9) (fun _ => Pc_wt h8' (by decide) fun σ9 h9 => Pc_wt h9 (by decide) fun σ10 h10 => Pc_some h10)) (fun _ => Pc_bind (k_pushes h8') (fun σ9 h9 => Pc_some h9))
/-- a turn of the loop with a deed -/
theorem turn_deed2 {τ : St} {a k : Nat} (ha : a < 8) (h : τ 211 a = 0) (hp : m_X12_passes a τ = some (0, τ)) (hk : τ 170 72 = (k : Int)) (hk4 : k < 40) :
    m_X12_turn_L181 a τ = (m_X12_deed a (up (up τ 170 72 ((k + 1 : Nat) : Int)) 209 a (wr (τ 209 a + 1)))).bind fun s => some (.inl s) := by
  have e1 : wr ((k : Int) + 1) = ((k + 1 : Nat) : Int) := nx1 (by omega)
  have e3 : rd (up τ 170 72 ((k + 1 : Nat) : Int)) 209 8 (a : Int) = some (τ 209 a) := by
    rw [rd_ok (by omega) (by omega), Int.toNat_natCast, up_cell (by decide)]
  have e4 : ∀ x, wt (up τ 170 72 ((k + 1 : Nat) : Int)) 209 8 (a : Int) x = some (up (up τ 170 72 ((k + 1 : Nat) : Int)) 209 a x) := by
    intro x
    rw [wt_ok (by omega) (by omega), Int.toNat_natCast]
  rw [m_X12_turn_L181, rd_ok (by omega) (by omega), bnd_s, Int.toNat_natCast, h, if_pos rfl, hp, bnd_s]
  show (if (0 : Int) = 0 then (if τ 170 72 = 40 then some (.inr (.inr τ)) else (pt τ 170 72 (wr (τ 170 72 + 1))).bind fun σ49 => (rd σ49 209 8 a).bind fun x50 => (wt σ49 209 8 a (wr (x50 + 1))).bind fun σ51 => (m_X12_deed a σ51).bind fun σ52 => some (.inl σ52)) else some (.inl τ) : Option (St ⊕ (St ⊕ St))) = _
  rw [if_pos rfl, hk, if_neg (show ¬ ((k : Int) = 40) by omega), e1, pt_s, bnd_s, e3, bnd_s, e4, bnd_s]
