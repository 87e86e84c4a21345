/-! THE PARSERS side by side: token by token -/
/-- the model's kind of a token of the class's kind k -/
def MK (k : Int) : Int := KML.getD k.toNat 0
theorem MK_inj {x y : Int} (hx : 0 ≤ x ∧ x ≤ 30) (hy : 0 ≤ y ∧ y ≤ 30) (h : MK x = MK y) : x = y := by
  have key : ∀ a b : Fin 31, KML.getD a.val 0 = KML.getD b.val 0 → a.val = b.val := by decide +kernel
  have := key ⟨x.toNat, by omega⟩ ⟨y.toNat, by omega⟩ h
  simp only at this
  omega
def VK (K : Nat → Int) (t : Nat) : Prop := ∀ j, j < t → K j ≠ 29 ∧ K j ≠ 30
/-- what is true of the tokens: kinds K, places P, ints D, names NL -/
def TF (K : Nat → Int) (P : Nat → Nat) (D : Nat → Int) (NL : Nat → List Int) : Prop := (∀ t, 0 ≤ K t ∧ K t ≤ 30) ∧ (∀ t j, j < t → VK K t → P j < P t) ∧ (∀ t, K t = 26 → okL (NL t)) ∧ ∀ t, K t = 27 → 0 ≤ D t ∧ D t ≤ 99
def AC (K : Nat → Int) (P : Nat → Nat) (D : Nat → Int) (NL : Nat → List Int) (τ : St) : Prop := ∀ t, t < 502 → VK K t → τ 17 t = K t ∧ τ 18 t = (P t : Int) ∧ (K t = 27 → τ 19 t = D t) ∧ (K t = 26 → τ 20 t = nB 32 (NL t))
def AM (K : Nat → Int) (P : Nat → Nat) (D : Nat → Int) (NL : Nat → List Int) (τ : St) : Prop := ∀ t, t ≤ 500 → VK K t → τ 173 t = MK (K t) ∧ τ 174 t = (P t : Int) ∧ (K t = 27 → τ 175 t = D t) ∧ (K t = 26 → τ 176 t = nB 27 (NL t))
/-- the class stands before token t -/
def CT (K : Nat → Int) (P : Nat → Nat) (D : Nat → Int) (NL : Nat → List Int) (t : Nat) (τ : St) : Prop := τ 118 10 = (t : Int) ∧ τ 118 11 = K t ∧ τ 118 12 = (P t : Int) ∧ (K t = 27 → τ 118 13 = D t) ∧ (K t = 26 → τ 118 14 = nB 32 (NL t))
/-- the faults that count later are alike -/
def LT (P : Nat → Nat) (t : Nat) (τ τm : St) : Prop := (τ 118 8 = 0 ∧ τm 170 14 = 0) ∨ ∃ (e : Int) (j : Nat), (3 ≤ e ∧ e ≤ 5) ∧ j < t ∧ τ 118 8 = e ∧ τm 170 14 = e ∧ τ 118 9 = (P j : Int) ∧ τm 170 15 = (P j : Int)
/-- both stand before token t, without a fault -/
def JC (K : Nat → Int) (P : Nat → Nat) (D : Nat → Int) (NL : Nat → List Int) (t : Nat) (τ τm : St) : Prop := (VK K t ∧ t ≤ 500) ∧ (AC K P D NL τ ∧ AM K P D NL τm) ∧ CT K P D NL t τ ∧ (τm 170 11 = (t : Int) ∧ τm 170 12 = 0)
def JT (K : Nat → Int) (P : Nat → Nat) (D : Nat → Int) (NL : Nat → List Int) (t : Nat) (τ τm : St) : Prop := JC K P D NL t τ τm ∧ LT P t τ τm
/-- the faults that count later stand as they stood -/
def Kp (τ τm τ' τm' : St) : Prop := τ' 118 8 = τ 118 8 ∧ τ' 118 9 = τ 118 9 ∧ τm' 170 14 = τm 170 14 ∧ τm' 170 15 = τm 170 15
/-- both have found the same fault -/
def Fl (P : Nat → Nat) (τ τm : St) : Prop := ∃ (e : Int) (t : Nat), (e = 1 ∨ e = 2) ∧ τ 118 1 = e ∧ τ 118 2 = (P t : Int) ∧ τm 170 12 = e ∧ τm 170 13 = (P t : Int) ∧ ∃ t' : Nat, τm 170 11 = (t' : Int) ∧ t' ≤ 500
def CurC (τ τ' : St) : Prop := ∀ k j, ¬ (k = 118 ∧ (j = 1 ∨ j = 2 ∨ (8 ≤ j ∧ j ≤ 14))) → τ' k j = τ k j
def CurM (τ τ' : St) : Prop := ∀ k j, ¬ (k = 170 ∧ 11 ≤ j ∧ j ≤ 15) → τ' k j = τ k j
theorem CurC_tr {τ τ1 τ2 : St} (h1 : CurC τ τ1) (h2 : CurC τ1 τ2) : CurC τ τ2 := fun k j n => (h2 k j n).trans (h1 k j n)
theorem CurM_tr {τ τ1 τ2 : St} (h1 : CurM τ τ1) (h2 : CurM τ1 τ2) : CurM τ τ2 := fun k j n => (h2 k j n).trans (h1 k j n)
theorem CurC_rf {τ : St} : CurC τ τ := fun _ _ _ => rfl
theorem CurM_rf {τ : St} : CurM τ τ := fun _ _ _ => rfl
theorem CurC_up {τ τ' : St} {i : Nat} {x : Int} (h : CurC τ τ') (hi : i = 1 ∨ i = 2 ∨ (8 ≤ i ∧ i ≤ 14)) : CurC τ (up τ' 118 i x) := fun k j n => by
  by_cases hk : k = 118
  · subst hk; rw [up_slot (by omega)]; exact h _ _ n
  · rw [up_cell hk]; exact h _ _ n
theorem CurM_up {τ τ' : St} {i : Nat} {x : Int} (h : CurM τ τ') (hi : 11 ≤ i ∧ i ≤ 15) : CurM τ (up τ' 170 i x) := fun k j n => by
  by_cases hk : k = 170
  · subst hk; rw [up_slot (by omega)]; exact h _ _ n
  · rw [up_cell hk]; exact h _ _ n
section
variable {K : Nat → Int} {P : Nat → Nat} {D : Nat → Int} {NL : Nat → List Int} {t : Nat} {τ τm τ' τm' : St}
theorem AC_cg (h : AC K P D NL τ) (hc : ∀ k j, 17 ≤ k → k ≤ 20 → τ' k j = τ k j) : AC K P D NL τ' := fun t ht hv => by
  obtain ⟨h1, h2, h3, h4⟩ := h t ht hv
  exact ⟨by rw [hc _ _ (by decide) (by decide)]; exact h1, by rw [hc _ _ (by decide) (by decide)]; exact h2, fun q => by rw [hc _ _ (by decide) (by decide)]; exact h3 q, fun q => by rw [hc _ _ (by decide) (by decide)]; exact h4 q⟩
theorem AM_cg (h : AM K P D NL τm) (hc : ∀ k j, 173 ≤ k → k ≤ 176 → τm' k j = τm k j) : AM K P D NL τm' := fun t ht hv => by
  obtain ⟨h1, h2, h3, h4⟩ := h t ht hv
  exact ⟨by rw [hc _ _ (by decide) (by decide)]; exact h1, by rw [hc _ _ (by decide) (by decide)]; exact h2, fun q => by rw [hc _ _ (by decide) (by decide)]; exact h3 q, fun q => by rw [hc _ _ (by decide) (by decide)]; exact h4 q⟩
theorem lt_kp {t' : Nat} (h : LT P t τ τm) (hk : Kp τ τm τ' τm') (ht : t ≤ t') : LT P t' τ' τm' := by
  obtain ⟨k1, k2, k3, k4⟩ := hk
  unfold LT
  rw [k1, k2, k3, k4]
  rcases h with h | ⟨e, j, h1, h2, h3⟩
  · exact Or.inl h
  · exact Or.inr ⟨e, j, h1, by omega, h3⟩
theorem jc_cg (h : JC K P D NL t τ τm) (hc : ∀ k j, (17 ≤ k ∧ k ≤ 20) ∨ (k = 118 ∧ 10 ≤ j ∧ j ≤ 14) → τ' k j = τ k j) (hm : ∀ k j, (173 ≤ k ∧ k ≤ 176) ∨ (k = 170 ∧ 11 ≤ j ∧ j ≤ 12) → τm' k j = τm k j) : JC K P D NL t τ' τm' := by
  obtain ⟨hv, ⟨h1, h2⟩, ⟨c1, c2, c3, c4, c5⟩, ⟨m1, m2⟩⟩ := h
  refine ⟨hv, ⟨AC_cg h1 (fun k j a b => hc k j (by omega)), AM_cg h2 (fun k j a b => hm k j (by omega))⟩, ⟨?_, ?_, ?_, fun q => ?_, fun q => ?_⟩, ⟨?_, ?_⟩⟩
  · rw [hc _ _ (by omega)]; exact c1
  · rw [hc _ _ (by omega)]; exact c2
  · rw [hc _ _ (by omega)]; exact c3
  · rw [hc _ _ (by omega)]; exact c4 q
  · rw [hc _ _ (by omega)]; exact c5 q
  · rw [hm _ _ (by omega)]; exact m1
  · rw [hm _ _ (by omega)]; exact m2
theorem jt_cg (h : JT K P D NL t τ τm) (hc : ∀ k j, (17 ≤ k ∧ k ≤ 20) ∨ (k = 118 ∧ 8 ≤ j ∧ j ≤ 14) → τ' k j = τ k j) (hm : ∀ k j, (173 ≤ k ∧ k ≤ 176) ∨ (k = 170 ∧ 11 ≤ j ∧ j ≤ 15) → τm' k j = τm k j) : JT K P D NL t τ' τm' :=
  ⟨jc_cg h.1 (fun k j n => hc k j (by omega)) (fun k j n => hm k j (by omega)), lt_kp h.2 ⟨hc _ _ (by omega), hc _ _ (by omega), hm _ _ (by omega), hm _ _ (by omega)⟩ (Nat.le_refl _)⟩
theorem fl_cg (h : Fl P τ τm) (hc : ∀ j, j = 1 ∨ j = 2 → τ' 118 j = τ 118 j) (hm : ∀ j, 11 ≤ j → j ≤ 13 → τm' 170 j = τm 170 j) : Fl P τ' τm' := by
  obtain ⟨e, t, h1, h2, h3, h4, h5, t', h6, h7⟩ := h
  exact ⟨e, t, h1, by rw [hc 1 (by omega)]; exact h2, by rw [hc 2 (by omega)]; exact h3, by rw [hm 12 (by omega) (by omega)]; exact h4, by rw [hm 13 (by omega) (by omega)]; exact h5, t', by rw [hm 11 (by omega) (by omega)]; exact h6, h7⟩
theorem mis (hT : TF K P D NL) (h : JC K P D NL t τ τm) {a b : Int} (ha : 0 ≤ a ∧ a ≤ 30) (hb : MK a = b) : m_X12_is b τm = some (if K t = a then 1 else 0) := by
  obtain ⟨⟨hv, ht⟩, ⟨-, h2⟩, -, ⟨m1, m2⟩⟩ := h
  obtain ⟨e1, -⟩ := h2 t ht hv
  rw [m_X12_is, m2, if_pos rfl, m1, rd_ok (by omega) (by omega), bnd_s, Int.toNat_natCast, e1, ← hb]
  by_cases hk : K t = a
  · rw [hk, if_pos rfl, if_pos rfl]
  · rw [if_neg (fun q => hk (MK_inj (hT.1 t) ha q)), if_neg hk]
theorem cfail {e : Int} : m_X4_fail e τ = some (0, up (up τ 118 1 e) 118 2 (τ 118 12)) := by
  rw [m_X4_fail, pt_s, bnd_s, pt_s, bnd_s, up_slot (by decide)]
theorem mfail (h : JC K P D NL t τ τm) {e : Int} : m_X12_fail e τm = some (up (up τm 170 12 e) 170 13 (P t : Int)) := by
  obtain ⟨⟨hv, ht⟩, ⟨-, h2⟩, -, ⟨m1, m2⟩⟩ := h
  obtain ⟨-, e2, -⟩ := h2 t ht hv
  rw [m_X12_fail, if_pos (by omega), pt_s, bnd_s, up_slot (by decide), m1, rd_ok (by omega) (by omega), bnd_s, Int.toNat_natCast, up_cell (by decide), e2, pt_s, bnd_s]
/-- both fail -/
theorem jfail (h : JC K P D NL t τ τm) {e : Int} (he : e = 1 ∨ e = 2) : ∃ τ' τm', m_X4_fail e τ = some (0, τ') ∧ m_X12_fail e τm = some τm' ∧ Fl P τ' τm' ∧ CurC τ τ' ∧ CurM τm τm' := by
  have h0 := h
  obtain ⟨⟨hv, ht⟩, -, ⟨-, -, c3, -⟩, ⟨m1, m2⟩⟩ := h
  refine ⟨_, _, cfail, mfail h0, ⟨e, t, he, ?_, ?_, ?_, ?_, t, ?_, ht⟩, CurC_up (CurC_up CurC_rf (by omega)) (by omega), CurM_up (CurM_up CurM_rf (by omega)) (by omega)⟩
  · rw [up_slot (by decide), up_eq]
  · rw [up_eq, c3]
  · rw [up_slot (by decide), up_eq]
  · rw [up_eq]
  · rw [up_slot (by decide), up_slot (by decide)]; exact m1
theorem VK_next (h : VK K t) (h1 : K t ≠ 29) (h2 : K t ≠ 30) : VK K (t + 1) := fun j hj => by
  by_cases hjt : j = t
  · rw [hjt]; exact ⟨h1, h2⟩
  · exact h j (by omega)
theorem LT_mono {s : Nat} (h : LT P t τ τm) (hs : t ≤ s) : LT P s τ τm := by
  rcases h with h | ⟨e, j, h1, h2, h3⟩
  · exact Or.inl h
  · exact Or.inr ⟨e, j, h1, by omega, h3⟩
/-- both take a token -/
theorem jnext (h : JC K P D NL t τ τm) {a : Int} (hk : K t = a) (ha : a ≤ 28) :
    (t < 500 ∧ ∃ τ' τm', m_X4_accept a τ = some (1, τ') ∧ m_X12_next τm = some τm' ∧ JC K P D NL (t + 1) τ' τm' ∧ CurC τ τ' ∧ CurM τm τm' ∧ Kp τ τm τ' τm' ∧ τ' 118 1 = τ 118 1) ∨
    (∃ τ' τm', m_X4_accept a τ = some (0, τ') ∧ m_X12_next τm = some τm' ∧ Fl P τ' τm' ∧ CurC τ τ' ∧ CurM τm τm') := by
  have h0 := h
  obtain ⟨⟨hv, ht⟩, ⟨hA, hM⟩, ⟨c1, c2, c3, c4, c5⟩, ⟨m1, m2⟩⟩ := h
  by_cases hlt : t < 500
  · have hv' : VK K (t + 1) := VK_next hv (by omega) (by omega)
    obtain ⟨e1, e2, e3, e4⟩ := hA (t + 1) (by omega) hv'
    have hcome : m_X4_comeTo ((t + 1 : Nat) : Int) τ = some (up (up (up (up (up τ 118 10 ((t + 1 : Nat) : Int)) 118 11 (τ 17 (t + 1))) 118 12 (τ 18 (t + 1))) 118 13 (τ 19 (t + 1))) 118 14 (τ 20 (t + 1))) := by
      rw [m_X4_comeTo, pt_s, bnd_s, if_neg (by omega), if_neg (by omega), rd_ok (by omega) (by omega), bnd_s, Int.toNat_natCast, up_cell (by decide), pt_s, bnd_s, rd_ok (by omega) (by omega), bnd_s, Int.toNat_natCast, up_cell (by decide), up_cell (by decide), pt_s, bnd_s, rd_ok (by omega) (by omega), bnd_s, Int.toNat_natCast, up_cell (by decide), up_cell (by decide), up_cell (by decide), pt_s, bnd_s, rd_ok (by omega) (by omega), bnd_s, Int.toNat_natCast, up_cell (by decide), up_cell (by decide), up_cell (by decide), up_cell (by decide), pt_s, bnd_s]
    obtain ⟨τ', hτ⟩ : ∃ τ', τ' = up (up (up (up (up τ 118 10 ((t + 1 : Nat) : Int)) 118 11 (τ 17 (t + 1))) 118 12 (τ 18 (t + 1))) 118 13 (τ 19 (t + 1))) 118 14 (τ 20 (t + 1)) := ⟨_, rfl⟩
    rw [← hτ] at hcome
    refine Or.inl ⟨hlt, τ', up τm 170 11 ((t + 1 : Nat) : Int), ?_, ?_, ⟨⟨hv', by omega⟩, ⟨AC_cg hA (fun k j n1 n2 => ?_), AM_cg hM (fun k j n1 n2 => up_cell (by omega))⟩, ⟨?_, ?_, ?_, fun q => ?_, fun q => ?_⟩, ⟨up_eq .., ?_⟩⟩, ?_, CurM_up CurM_rf (by omega), ?_, ?_⟩
    · rw [m_X4_accept, c2, if_pos hk, c1, if_pos (by omega), nx1 (by omega), hcome, bnd_s]
    · rw [m_X12_next, m1, if_neg (by omega), pt_s, bnd_s, nx1 (by omega)]
    · rw [hτ, up_cell (by omega), up_cell (by omega), up_cell (by omega), up_cell (by omega), up_cell (by omega)]
    · rw [hτ]; simp (disch := decide) only [up_eq, up_slot]
    · rw [hτ]; simp (disch := decide) only [up_eq, up_slot]; exact e1
    · rw [hτ]; simp (disch := decide) only [up_eq, up_slot]; exact e2
    · rw [hτ]; simp (disch := decide) only [up_eq, up_slot]; exact e3 q
    · rw [hτ]; simp (disch := decide) only [up_eq, up_slot]; exact e4 q
    · rw [up_slot (by decide)]; exact m2
    · rw [hτ]; exact CurC_up (CurC_up (CurC_up (CurC_up (CurC_up CurC_rf (by omega)) (by omega)) (by omega)) (by omega)) (by omega)
    · refine ⟨?_, ?_, ?_, ?_⟩
      · rw [hτ]; simp (disch := decide) only [up_slot]
      · rw [hτ]; simp (disch := decide) only [up_slot]
      · rw [up_slot (by decide)]
      · rw [up_slot (by decide)]
    · rw [hτ]; simp (disch := decide) only [up_slot]
  · obtain ⟨τ', τm', o1, o2, o3, o4, o5⟩ := jfail h0 (e := 2) (Or.inr rfl)
    refine Or.inr ⟨τ', τm', ?_, ?_, o3, o4, o5⟩
    · rw [m_X4_accept, c2, if_pos hk, c1, if_neg (by omega), o1, bnd_s]
    · rw [m_X12_next, m1, if_pos (by omega), o2, bnd_s]
theorem jacc (hT : TF K P D NL) (h : JC K P D NL t τ τm) {a b : Int} (ha : 0 ≤ a ∧ a ≤ 28) (hb : MK a = b) :
    ((K t = a ∧ t < 500) ∧ ∃ τ' τm', m_X4_accept a τ = some (1, τ') ∧ m_X12_must b τm = some τm' ∧ JC K P D NL (t + 1) τ' τm' ∧ CurC τ τ' ∧ CurM τm τm' ∧ Kp τ τm τ' τm' ∧ τ' 118 1 = τ 118 1) ∨
    (∃ τ' τm', m_X4_accept a τ = some (0, τ') ∧ m_X12_must b τm = some τm' ∧ Fl P τ' τm' ∧ CurC τ τ' ∧ CurM τm τm') := by
  have hi := mis hT h (a := a) (b := b) (by omega) hb
  by_cases hk : K t = a
  · rw [if_pos hk] at hi
    rcases jnext h hk ha.2 with ⟨g0, τ', τm', g1, g2, g3, g4⟩ | ⟨τ', τm', g1, g2, g3⟩
    · refine Or.inl ⟨⟨hk, g0⟩, τ', τm', g1, ?_, g3, g4⟩
      rw [m_X12_must, hi, bnd_s, if_neg (by decide), g2, bnd_s]
    · refine Or.inr ⟨τ', τm', g1, ?_, g3⟩
      rw [m_X12_must, hi, bnd_s, if_neg (by decide), g2, bnd_s]
  · rw [if_neg hk] at hi
    obtain ⟨τ', τm', o1, o2, o3⟩ := jfail h (e := 1) (Or.inl rfl)
    refine Or.inr ⟨τ', τm', ?_, ?_, o3⟩
    · rw [m_X4_accept, h.2.2.1.2.1, if_neg hk, o1, bnd_s]
    · rw [m_X12_must, hi, bnd_s, if_pos rfl, o2, bnd_s]
/-- a fault that counts later, at token t -/
theorem jwrong {e : Int} (hT : TF K P D NL) (hv : VK K t) (ht : t ≤ 500) (hM : AM K P D NL τm) (h12 : τm 170 12 = 0) (hP : τ 118 12 = (P t : Int)) (hl : LT P t τ τm) (he : 3 ≤ e ∧ e ≤ 5) :
    ∃ τ' τm', m_X4_failLater e τ = some τ' ∧ m_X12_wrong e (t : Int) τm = some τm' ∧ LT P (t + 1) τ' τm' ∧ τ' 118 8 ≠ 0 ∧ (∀ k j, ¬ (k = 118 ∧ (j = 8 ∨ j = 9)) → τ' k j = τ k j) ∧ (∀ k j, ¬ (k = 170 ∧ (j = 14 ∨ j = 15)) → τm' k j = τm k j) ∧ m_X12_wrong e (t : Int) τm' = some τm' := by
  obtain ⟨-, e2, -⟩ := hM t ht hv
  rcases hl with ⟨l1, l2⟩ | ⟨e0, j, l1, l2, l3, l4, l5, l6⟩
  · have hz : ¬ (0 : Int) < 0 := by decide
    refine ⟨up (up τ 118 8 e) 118 9 (P t : Int), up (up τm 170 14 e) 170 15 (P t : Int), ?_, ?_, Or.inr ⟨e, t, he, by omega, ?_, ?_, ?_, ?_⟩, ?_, ?_, ?_, ?_⟩
    · rw [m_X4_failLater, if_pos l1, pt_s, bnd_s, up_slot (by decide), hP, pt_s, bnd_s]
    · rw [m_X12_wrong, rd_ok (by omega) (by omega), bnd_s, Int.toNat_natCast, e2, h12, if_neg hz, l2, if_pos rfl, m_X12_wrong_J46, pt_s, bnd_s, pt_s, bnd_s]
    · rw [up_slot (by decide), up_eq]
    · rw [up_slot (by decide), up_eq]
    · rw [up_eq]
    · rw [up_eq]
    · rw [up_slot (by decide), up_eq]; omega
    · intro k j n
      by_cases hk : k = 118
      · subst hk; rw [up_slot (by omega), up_slot (by omega)]
      · rw [up_cell hk, up_cell hk]
    · intro k j n
      by_cases hk : k = 170
      · subst hk; rw [up_slot (by omega), up_slot (by omega)]
      · rw [up_cell hk, up_cell hk]
    · rw [m_X12_wrong, rd_ok (by omega) (by omega), bnd_s, Int.toNat_natCast, up_cell (k' := 174) (by decide), up_cell (k' := 174) (by decide), e2]
      simp (disch := decide) only [up_slot, up_eq]
      rw [h12, if_neg hz, if_neg (by omega), if_neg (by omega), if_pos trivial, if_neg (by omega)]
  · have hlt := hT.2.1 t j l2 hv
    refine ⟨τ, τm, ?_, ?_, Or.inr ⟨e0, j, l1, by omega, l3, l4, l5, l6⟩, by omega, fun _ _ _ => rfl, fun _ _ _ => rfl, ?_⟩
    · rw [m_X4_failLater, if_neg (by omega)]
    · rw [m_X12_wrong, rd_ok (by omega) (by omega), bnd_s, Int.toNat_natCast, e2, if_neg (by omega), if_neg (by omega), l6, if_pos (by omega)]
    · rw [m_X12_wrong, rd_ok (by omega) (by omega), bnd_s, Int.toNat_natCast, e2, if_neg (by omega), if_neg (by omega), l6, if_pos (by omega)]
/-- both read an int -/
theorem jnum (hT : TF K P D NL) (h : JT K P D NL t τ τm) {z : Int} :
    ((K t = 27 ∧ t < 500) ∧ ∃ τ' τm', m_X4_acceptNumber z τ = some (1, τ') ∧ m_X12_number z τm = some (D t, τm') ∧ JT K P D NL (t + 1) τ' τm' ∧ CurC τ τ' ∧ CurM τm τm' ∧ (τ' 118 8 = 0 → τ 118 8 = 0 ∧ D t ≤ z) ∧ τ' 118 1 = τ 118 1) ∨
    (∃ v τ' τm', m_X4_acceptNumber z τ = some (0, τ') ∧ m_X12_number z τm = some (v, τm') ∧ Fl P τ' τm' ∧ CurC τ τ' ∧ CurM τm τm') := by
  have h0 := h
  obtain ⟨⟨⟨hv, ht⟩, ⟨hA, hM⟩, ⟨c1, c2, c3, c4, c5⟩, ⟨m1, m2⟩⟩, hl⟩ := h
  obtain ⟨-, -, e3, -⟩ := hM t ht hv
  by_cases hk : K t = 27
  · have hfl : ∀ τ1 : St, (K t = 27 → m_X4_acceptNumber z τ = (m_X4_accept 27 τ1).bind fun r => some (r.1, r.2)) → (∀ k j, ¬ (k = 118 ∧ (j = 8 ∨ j = 9)) → τ1 k j = τ k j) → (∃ τ' τm', m_X4_accept 27 τ1 = some (0, τ') ∧ m_X12_must 2 τm = some τm' ∧ Fl P τ' τm' ∧ CurC τ1 τ' ∧ CurM τm τm') → (∃ v τ' τm', m_X4_acceptNumber z τ = some (0, τ') ∧ m_X12_number z τm = some (v, τm') ∧ Fl P τ' τm' ∧ CurC τ τ' ∧ CurM τm τm') := by
      rintro τ1 o1 o2 ⟨τ', τm', g1, g2, g3, g4, g5⟩
      refine ⟨D t, τ', τm', ?_, ?_, g3, CurC_tr (fun k j n => o2 k j (by omega)) g4, g5⟩
      · rw [o1 hk, g1, bnd_s]
      · obtain ⟨e, t', he, -, -, he2, -⟩ := g3
        rw [m_X12_number, m1, rd_ok (by omega) (by omega), bnd_s, Int.toNat_natCast, e3 hk, g2, bnd_s, if_neg (by omega)]
    by_cases hz : D t ≤ z
    · have hacc : m_X4_acceptNumber z τ = (m_X4_accept 27 τ).bind fun r => some (r.1, r.2) := by
        rw [m_X4_acceptNumber, c2, if_pos hk, c4 hk, if_pos hz]
      rcases jacc hT h0.1 (a := 27) (b := 2) (by decide) rfl with ⟨g0, τ', τm', g1, g2, g3, g4, g5, g6, g7⟩ | g
      · refine Or.inl ⟨g0, τ', τm', ?_, ?_, ⟨g3, lt_kp hl g6 (by omega)⟩, g4, g5, fun q => ⟨by rw [← g6.1]; exact q, hz⟩, g7⟩
        · rw [hacc, g1, bnd_s]
        · rw [m_X12_number, m1, rd_ok (by omega) (by omega), bnd_s, Int.toNat_natCast, e3 hk, g2, bnd_s, g3.2.2.2.2, if_pos rfl, if_pos hz]
      · exact Or.inr (hfl τ (fun _ => hacc) (fun _ _ _ => rfl) g)
    · -- too great: a fault that counts later
      obtain ⟨τ1, τx, w1, -, -, w4, w5, -, -⟩ := jwrong (e := 5) hT hv ht hM m2 c3 hl (by decide)
      have hacc : m_X4_acceptNumber z τ = (m_X4_accept 27 τ1).bind fun r => some (r.1, r.2) := by
        rw [m_X4_acceptNumber, c2, if_pos hk, c4 hk, if_neg hz, w1, bnd_s]
      have hj1 : JC K P D NL t τ1 τm := jc_cg h0.1 (fun k j n => w5 k j (by omega)) (fun _ _ _ => rfl)
      rcases jacc hT hj1 (a := 27) (b := 2) (by decide) rfl with ⟨g0, τ', τm', g1, g2, g3, g4, g5, g6, g7⟩ | g
      · obtain ⟨τ2, τm2, v1, v2, v3, v4, v5, v6, -⟩ := jwrong (e := 5) (τ := τ) (τm := τm') hT hv ht g3.2.1.2 g3.2.2.2.2 c3 (lt_kp hl ⟨rfl, rfl, g6.2.2.1, g6.2.2.2⟩ (Nat.le_refl _)) (by decide)
        have h12 : τ2 = τ1 := Option.some.inj (v1.symm.trans w1)
        subst h12
        refine Or.inl ⟨g0, τ', τm2, ?_, ?_, ⟨jc_cg g3 (fun _ _ _ => rfl) (fun k j n => v6 k j (by omega)), lt_kp v3 ⟨g6.1, g6.2.1, rfl, rfl⟩ (Nat.le_refl _)⟩, CurC_tr (fun k j n => w5 k j (by omega)) g4, CurM_tr g5 (fun k j n => v6 k j (by omega)), fun q => absurd (g6.1.symm.trans q) w4, g7.trans (w5 _ _ (by omega))⟩
        · rw [hacc, g1, bnd_s]
        · rw [m_X12_number, m1, rd_ok (by omega) (by omega), bnd_s, Int.toNat_natCast, e3 hk, g2, bnd_s, g3.2.2.2.2, if_pos rfl, if_neg hz, v2, bnd_s]
      · exact Or.inr (hfl τ1 (fun _ => hacc) w5 g)
  · have hmv : ∃ v, rd τm 175 503 (τm 170 11) = some v := ⟨_, by rw [m1]; exact rd_ok (by omega) (by omega)⟩
    obtain ⟨v, hv2⟩ := hmv
    rcases jacc hT h0.1 (a := 27) (b := 2) (by decide) rfl with ⟨g0, -⟩ | ⟨τ', τm', g1, g2, g3, g4, g5⟩
    · exact absurd g0.1 hk
    · refine Or.inr ⟨v, τ', τm', ?_, ?_, g3, g4, g5⟩
      · rw [m_X4_acceptNumber, c2, if_neg hk, g1, bnd_s]
      · obtain ⟨e, t', he, -, -, he2, -⟩ := g3
        rw [m_X12_number, hv2, bnd_s, g2, bnd_s, if_neg (by omega)]
/-- with a later fault in mind: a token -/
theorem jaccT (hT : TF K P D NL) (h : JT K P D NL t τ τm) {a b : Int} (ha : 0 ≤ a ∧ a ≤ 28) (hb : MK a = b) :
    ((K t = a ∧ t < 500) ∧ ∃ τ' τm', m_X4_accept a τ = some (1, τ') ∧ m_X12_must b τm = some τm' ∧ JT K P D NL (t + 1) τ' τm' ∧ CurC τ τ' ∧ CurM τm τm' ∧ τ' 118 8 = τ 118 8 ∧ τ' 118 1 = τ 118 1) ∨
    (∃ τ' τm', m_X4_accept a τ = some (0, τ') ∧ m_X12_must b τm = some τm' ∧ Fl P τ' τm' ∧ CurC τ τ' ∧ CurM τm τm') := by
  rcases jacc hT h.1 ha hb with ⟨g0, τ', τm', g1, g2, g3, g4, g5, g6, g7⟩ | g
  · exact Or.inl ⟨g0, τ', τm', g1, g2, ⟨g3, lt_kp h.2 g6 (by omega)⟩, g4, g5, g6.1, g7⟩
  · exact Or.inr g
theorem jnextT (h : JT K P D NL t τ τm) {a : Int} (hk : K t = a) (ha : a ≤ 28) :
    (t < 500 ∧ ∃ τ' τm', m_X4_accept a τ = some (1, τ') ∧ m_X12_next τm = some τm' ∧ JT K P D NL (t + 1) τ' τm' ∧ CurC τ τ' ∧ CurM τm τm' ∧ τ' 118 8 = τ 118 8 ∧ τ' 118 1 = τ 118 1) ∨
    (∃ τ' τm', m_X4_accept a τ = some (0, τ') ∧ m_X12_next τm = some τm' ∧ Fl P τ' τm' ∧ CurC τ τ' ∧ CurM τm τm') := by
  rcases jnext h.1 hk ha with ⟨g0, τ', τm', g1, g2, g3, g4, g5, g6, g7⟩ | g
  · exact Or.inl ⟨g0, τ', τm', g1, g2, ⟨g3, lt_kp h.2 g6 (by omega)⟩, g4, g5, g6.1, g7⟩
  · exact Or.inr g
/-! what the model does once a fault is found: nothing -/
theorem fis (h : Fl P τ τm) {b : Int} : m_X12_is b τm = some 0 := by
  obtain ⟨e, t, he, -, -, h1, -⟩ := h
  rw [m_X12_is, if_neg (by omega)]
theorem ffail (h : Fl P τ τm) {e : Int} : m_X12_fail e τm = some τm := by
  obtain ⟨e, t, he, -, -, h1, -⟩ := h
  rw [m_X12_fail, if_neg (by omega)]
theorem fmust (h : Fl P τ τm) {b : Int} : m_X12_must b τm = some τm := by
  rw [m_X12_must, fis h, bnd_s, if_pos rfl, ffail h, bnd_s]
theorem fnum (h : Fl P τ τm) {z : Int} : ∃ v, m_X12_number z τm = some (v, τm) := by
  have h0 := h
  obtain ⟨e, t, he, -, -, h1, -, t', h2, h3⟩ := h
  exact ⟨_, by rw [m_X12_number, h2, rd_ok (by omega) (by omega), bnd_s, fmust h0, bnd_s, if_neg (by omega)]⟩
theorem fopens (h : Fl P τ τm) {a b c d : Int} : m_X12_opens a b c d τm = some τm := by
  obtain ⟨e, t, he, -, -, h1, -⟩ := h
  rw [m_X12_opens, if_neg (by omega)]
theorem fnext (h : Fl P τ τm) : ∃ τm', m_X12_next τm = some τm' ∧ Fl P τ τm' ∧ CurM τm τm' := by
  have h0 := h
  obtain ⟨e, t, he, k1, k2, h1, h4, t', h2, h3⟩ := h
  by_cases h5 : t' = 500
  · exact ⟨τm, by rw [m_X12_next, h2, if_pos (by omega), ffail h0, bnd_s], h0, CurM_rf⟩
  · refine ⟨up τm 170 11 ((t' + 1 : Nat) : Int), by rw [m_X12_next, h2, if_neg (by omega), pt_s, bnd_s, nx1 (by omega)], ⟨e, t, he, k1, k2, by rw [up_slot (by decide)]; exact h1, by rw [up_slot (by decide)]; exact h4, t' + 1, up_eq .., by omega⟩, CurM_up CurM_rf (by omega)⟩
end
