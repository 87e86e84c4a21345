/-! what each piece of Inv looks at -/
theorem dep_iTown : Dep dTown iTown := by
  intro σ σ' h hP
  have e2 : σ' 2 = σ 2 := funext fun j => h 2 j rfl
  have e3 : σ' 3 = σ 3 := funext fun j => h 3 j rfl
  have e4 : σ' 4 = σ 4 := funext fun j => h 4 j rfl
  have e187 : σ' 187 = σ 187 := funext fun j => h 187 j rfl
  have e188 : σ' 188 = σ 188 := funext fun j => h 188 j rfl
  have e189 : σ' 189 = σ 189 := funext fun j => h 189 j rfl
  have f1 : σ' 170 30 = σ 170 30 := h 170 30 rfl
  have f2 : σ' 170 31 = σ 170 31 := h 170 31 rfl
  have f3 : σ' 1 4 = σ 1 4 := h 1 4 rfl
  have f4 : σ' 1 5 = σ 1 5 := h 1 5 rfl
  unfold iTown
  rw [e2, e3, e4, e187, e188, e189, f1, f2, f3, f4]
  exact hP
theorem dep_iNear : Dep dNear iNear := by
  intro σ σ' h hP
  have e2 : σ' 2 = σ 2 := funext fun j => h 2 j rfl
  have e3 : σ' 3 = σ 3 := funext fun j => h 3 j rfl
  have e4 : σ' 4 = σ 4 := funext fun j => h 4 j rfl
  have f4 : σ' 1 5 = σ 1 5 := h 1 5 rfl
  have hc : ∀ a : Fin 10, inC dNear.1 (6 + a.val) = true := by decide
  have hn : ∀ a b, a < 10 → σ' (6 + a) b = σ (6 + a) b := fun a b ha => h (6 + a) b (by
    unfold inR
    rw [hc ⟨a, ha⟩]; rfl)
  have hE : Edge σ' (σ' 1 5) = Edge σ (σ 1 5) := by
    funext a b l
    unfold Edge
    rw [e2, e3, e4, f4]
  have hM : ∀ a b, a < 10 → nM σ' a b = nM σ a b := fun a b ha => by
    unfold nM
    rw [hn a b ha]
  obtain ⟨⟨h1, h2, h3, h4⟩, h5⟩ := hP
  refine ⟨⟨?_, ?_, ?_, ?_⟩, ?_⟩
  · intro a b ha hb; rw [hM a b ha]; exact h1 a b ha hb
  · intro a ha; rw [hM a a ha]; exact h2 a ha
  · intro a x l b ha hx hb he
    rw [hE] at he
    rw [hM a b ha, hM x b hx]; exact h3 a x l b ha hx hb he
  · intro a b ha hb; rw [hM a b ha, hE]; exact h4 a b ha hb
  · intro a b ha hb; rw [hn a b ha]; exact h5 a b ha hb
theorem dep_iTape : Dep dTape iTape := by
  intro σ σ' h hP
  have e1 : σ' 21 = σ 21 := funext fun j => h 21 j rfl
  have e2 : σ' 171 = σ 171 := funext fun j => h 171 j rfl
  have f1 : σ' 170 2 = σ 170 2 := h 170 2 rfl
  have f2 : σ' 16 0 = σ 16 0 := h 16 0 rfl
  unfold iTape
  rw [e1, e2, f1, f2]
  exact hP
theorem dep_iPlace : Dep dPlace iPlace := by
  intro σ σ' h hP
  have f1 : σ' 118 1 = σ 118 1 := h 118 1 rfl
  have f2 : σ' 118 2 = σ 118 2 := h 118 2 rfl
  have f3 : σ' 170 16 = σ 170 16 := h 170 16 rfl
  unfold iPlace
  rw [f1, f2, f3]
  exact hP
theorem dep_iKeys : Dep dKeys iKeys := by
  intro σ σ' h hP
  have e1 : σ' 177 = σ 177 := funext fun j => h 177 j rfl
  unfold iKeys
  rw [e1]
  exact hP
theorem dep_iAg : Dep dAg iAg := by
  intro σ σ' h hP
  have e1 : σ' 190 = σ 190 := funext fun j => h 190 j rfl
  have e2 : σ' 191 = σ 191 := funext fun j => h 191 j rfl
  have e3 : σ' 192 = σ 192 := funext fun j => h 192 j rfl
  have f1 : σ' 170 35 = σ 170 35 := h 170 35 rfl
  have f2 : σ' 0 6 = σ 0 6 := h 0 6 rfl
  have f3 : σ' 1 4 = σ 1 4 := h 1 4 rfl
  have f4 : σ' 22 8 = σ 22 8 := h 22 8 rfl
  have hc : ∀ a : Fin 8, ∀ j : Fin 3, inR dAg (39 + 7 * a.val) j.val = true := by decide
  obtain ⟨h1, h2⟩ := hP
  refine ⟨by rw [f1, f2]; exact h1, ?_⟩
  intro a ha
  have g0 := h _ _ (hc ⟨a, ha⟩ 0)
  have g1 := h _ _ (hc ⟨a, ha⟩ 1)
  have g2 := h _ _ (hc ⟨a, ha⟩ 2)
  simp only at g0 g1 g2
  have := h2 a ha
  rw [e1, e2, e3, f2, f3, f4]
  simp only [show ((0 : Fin 3) : Nat) = 0 from rfl, show ((1 : Fin 3) : Nat) = 1 from rfl, show ((2 : Fin 3) : Nat) = 2 from rfl] at g0 g1 g2
  rw [g0, g1, g2]
  exact this
theorem dep_iBook : Dep dBook iBook := by
  intro σ σ' h hP
  have e1 : σ' 31 = σ 31 := funext fun j => h 31 j rfl
  have e2 : σ' 32 = σ 32 := funext fun j => h 32 j rfl
  have e3 : σ' 33 = σ 33 := funext fun j => h 33 j rfl
  have e4 : σ' 34 = σ 34 := funext fun j => h 34 j rfl
  have e5 : σ' 35 = σ 35 := funext fun j => h 35 j rfl
  have e6 : σ' 195 = σ 195 := funext fun j => h 195 j rfl
  have e7 : σ' 196 = σ 196 := funext fun j => h 196 j rfl
  have e8 : σ' 197 = σ 197 := funext fun j => h 197 j rfl
  have e9 : σ' 198 = σ 198 := funext fun j => h 198 j rfl
  have e10 : σ' 199 = σ 199 := funext fun j => h 199 j rfl
  have f1 : σ' 170 41 = σ 170 41 := h 170 41 rfl
  have f2 : σ' 30 5 = σ 30 5 := h 30 5 rfl
  have f3 : σ' 1 4 = σ 1 4 := h 1 4 rfl
  unfold iBook
  rw [e1, e2, e3, e4, e5, e6, e7, e8, e9, e10, f1, f2, f3]
  exact hP
theorem vw_cg {σ σ' : St} {n : Int} (h : ∀ k j, inR dCan k j = true → σ' k j = σ k j) : vw σ' n = vw σ n := by
  have e : ∀ k : Nat, (195 ≤ k ∧ k ≤ 199) ∨ (187 ≤ k ∧ k ≤ 189) → σ' k = σ k := by
    intro k hk
    funext j
    apply h
    have : k = 187 ∨ k = 188 ∨ k = 189 ∨ k = 195 ∨ k = 196 ∨ k = 197 ∨ k = 198 ∨ k = 199 := by omega
    rcases this with q | q | q | q | q | q | q | q <;> subst q <;> rfl
  funext k j
  unfold vw
  split
  next q =>
    rcases q with q | q | ⟨q1, q2 | q2⟩
    · rw [e k (by omega)]
    · rw [e k (by omega)]
    · subst q1; subst q2; exact h 170 30 rfl
    · subst q1; subst q2; exact h 170 31 rfl
  next q => rfl
theorem dep_iCan : Dep dCan iCan := by
  intro σ σ' h hP
  have e1 : σ' 221 = σ 221 := funext fun j => h 221 j rfl
  have e2 : σ' 225 = σ 225 := funext fun j => h 225 j rfl
  have f1 : σ' 170 74 = σ 170 74 := h 170 74 rfl
  have f2 : σ' 170 41 = σ 170 41 := h 170 41 rfl
  have f3 : σ' 170 35 = σ 170 35 := h 170 35 rfl
  unfold iCan
  rw [e1, e2, f1, f2, f3, vw_cg h]
  exact hP
theorem dep_iFeed : Dep dFeed iFeed := by
  intro σ σ' h hP
  have e1 : σ' 228 = σ 228 := funext fun j => h 228 j rfl
  have e2 : σ' 229 = σ 229 := funext fun j => h 229 j rfl
  have e3 : σ' 166 = σ 166 := funext fun j => h 166 j rfl
  have e4 : σ' 167 = σ 167 := funext fun j => h 167 j rfl
  have f1 : σ' 170 82 = σ 170 82 := h 170 82 rfl
  have f2 : σ' 0 6 = σ 0 6 := h 0 6 rfl
  have f3 : σ' 164 3 = σ 164 3 := h 164 3 rfl
  unfold iFeed
  rw [e1, e2, e3, e4, f1, f2, f3]
  exact hP
theorem dep_iRun : Dep dRun iRun := by
  intro σ σ' h hP
  have e1 : σ' 201 = σ 201 := funext fun j => h 201 j rfl
  have e2 : σ' 202 = σ 202 := funext fun j => h 202 j rfl
  have e3 : σ' 203 = σ 203 := funext fun j => h 203 j rfl
  have e4 : σ' 204 = σ 204 := funext fun j => h 204 j rfl
  have e5 : σ' 205 = σ 205 := funext fun j => h 205 j rfl
  have e6 : σ' 206 = σ 206 := funext fun j => h 206 j rfl
  have e7 : σ' 207 = σ 207 := funext fun j => h 207 j rfl
  have e8 : σ' 208 = σ 208 := funext fun j => h 208 j rfl
  have e9 : σ' 209 = σ 209 := funext fun j => h 209 j rfl
  have e10 : σ' 210 = σ 210 := funext fun j => h 210 j rfl
  have e11 : σ' 130 = σ 130 := funext fun j => h 130 j rfl
  have e12 : σ' 131 = σ 131 := funext fun j => h 131 j rfl
  have e13 : σ' 141 = σ 141 := funext fun j => h 141 j rfl
  have f1 : σ' 129 0 = σ 129 0 := h 129 0 rfl
  have f2 : σ' 129 1 = σ 129 1 := h 129 1 rfl
  have f3 : σ' 170 48 = σ 170 48 := h 170 48 rfl
  have f4 : σ' 0 6 = σ 0 6 := h 0 6 rfl
  have f5 : σ' 129 6 = σ 129 6 := h 129 6 rfl
  have f6 : σ' 170 58 = σ 170 58 := h 170 58 rfl
  have hc : ∀ a : Fin 8, ∀ j : Fin 3, inR dRun (39 + 7 * a.val) (16 + j.val) = true := by decide
  have hd : ∀ a : Fin 8, inC dRun.1 (43 + 7 * a.val) = true ∧ inC dRun.1 (44 + 7 * a.val) = true ∧ inC dRun.1 (45 + 7 * a.val) = true ∧ inC dRun.1 (133 + a.val) = true := by decide
  have hw : ∀ k, inC dRun.1 k = true → σ' k = σ k := fun k hk => funext fun j => h k j (by unfold inR; rw [hk]; rfl)
  unfold iRun
  rw [e1, e2, e3, e4, e5, e6, e7, e8, e9, e10, e11, e12, e13, f1, f2, f3, f4, f5, f6]
  rcases hP with hP | ⟨h1, h2, h3⟩
  · exact Or.inl hP
  · refine Or.inr ⟨h1, ?_, h3⟩
    intro a ha ha8
    have g0 : σ' (39 + 7 * a) 16 = σ (39 + 7 * a) 16 := h _ _ (hc ⟨a, ha8⟩ 0)
    have g1 : σ' (39 + 7 * a) 17 = σ (39 + 7 * a) 17 := h _ _ (hc ⟨a, ha8⟩ 1)
    have g2 : σ' (39 + 7 * a) 18 = σ (39 + 7 * a) 18 := h _ _ (hc ⟨a, ha8⟩ 2)
    obtain ⟨k1, k2, k3, k4⟩ := hd ⟨a, ha8⟩
    have := h2 a ha ha8
    rw [g0, g1, g2, hw _ k1, hw _ k2, hw _ k3, hw _ k4]
    exact this
theorem PgT_cg {σ σ' : St} {k0 L n c : Nat} {f : Nat → Nat} {cx : Nat → List Bool} {cd : Nat → Nat} (hk : ∀ j, j ≤ 7 → σ' (k0 + j) = σ (k0 + j)) (h180 : σ' 180 = σ 180) (h181 : σ' 181 = σ 181) (h182 : σ' 182 = σ 182) (h183 : σ' 183 = σ 183) (h184 : σ' 184 = σ 184) (h : PgT σ k0 L n c f cx cd) : PgT σ' k0 L n c f cx cd := by
  have h1 := hk 1 (by decide)
  have h2 := hk 2 (by decide)
  have h3 := hk 3 (by decide)
  have h4 := hk 4 (by decide)
  have h5 := hk 5 (by decide)
  have h7 := hk 7 (by decide)
  unfold PgT StOK at h ⊢
  rw [h1, h2, h3, h4, h5, h7, h180, h181, h182, h183, h184]
  exact h
theorem dep_iProg : Dep dProg iProg := by
  intro σ σ' h hP
  have e1 : σ' 178 = σ 178 := funext fun j => h 178 j rfl
  have f1 : σ' 170 17 = σ 170 17 := h 170 17 rfl
  have f2 : σ' 22 8 = σ 22 8 := h 22 8 rfl
  have f3 : σ' 22 7 = σ 22 7 := h 22 7 rfl
  obtain ⟨p1, p2, p3, p4, L, n, c, f, cx, cd, q1, q2, q3, q4, q5⟩ := hP
  refine ⟨by rw [f1]; exact p1, by rw [e1, f1, f2]; exact p2, by rw [f2]; exact p3, by rw [f2]; exact p4, L, n, c, f, cx, cd, by rw [f1]; exact q1, q2, by rw [f3]; exact q3, by rw [f2]; exact q4, ?_⟩
  refine PgT_cg ?_ ?_ ?_ ?_ ?_ ?_ q5
  · intro j hj
    funext i
    have hc : ∀ j : Fin 8, inC dProg.1 (22 + j.val) = true := by decide
    exact h (22 + j) i (by unfold inR; rw [hc ⟨j, by omega⟩]; rfl)
  · exact funext fun j => h 180 j rfl
  · exact funext fun j => h 181 j rfl
  · exact funext fun j => h 182 j rfl
  · exact funext fun j => h 183 j rfl
  · exact funext fun j => h 184 j rfl
/-- Inv is kept: of each piece, either nothing that it looks at is written, or it is shown anew -/
theorem inv_step {L : Rg} {σ σ' : St} (hI : Inv σ) (hw : Wr L σ σ') (h1 : dj dTown L = true ∨ iTown σ') (h2 : dj dNear L = true ∨ iNear σ') (h3 : dj dTape L = true ∨ iTape σ') (h4 : dj dPlace L = true ∨ iPlace σ') (h5 : dj dKeys L = true ∨ iKeys σ') (h6 : dj dAg L = true ∨ iAg σ') (h7 : dj dBook L = true ∨ iBook σ') (h8 : dj dCan L = true ∨ iCan σ') (h9 : dj dFeed L = true ∨ iFeed σ') (h10 : dj dRun L = true ∨ iRun σ') (h11 : dj dProg L = true ∨ iProg σ') : Inv σ' := by
  obtain ⟨k1, k2, k3, k4, k5, k6, k7, k8, k9, k10, k11⟩ := hI
  exact ⟨h1.elim (fun q => keep dep_iTown hw q k1) id, h2.elim (fun q => keep dep_iNear hw q k2) id, h3.elim (fun q => keep dep_iTape hw q k3) id, h4.elim (fun q => keep dep_iPlace hw q k4) id, h5.elim (fun q => keep dep_iKeys hw q k5) id, h6.elim (fun q => keep dep_iAg hw q k6) id, h7.elim (fun q => keep dep_iBook hw q k7) id, h8.elim (fun q => keep dep_iCan hw q k8) id, h9.elim (fun q => keep dep_iFeed hw q k9) id, h10.elim (fun q => keep dep_iRun hw q k10) id, h11.elim (fun q => keep dep_iProg hw q k11) id⟩
/-- a call that answers alike on both sides -/
theorem ps_of {o : Option (Int × St)} {g : St → Option (Int × St)} {I : St → Prop} (h : Hp o (fun r => Hp (g r.2) (fun q => q.1 = r.1 ∧ I q.2))) : ∃ y σ1 σ2, o = some (y, σ1) ∧ g σ1 = some (y, σ2) ∧ I σ2 := by
  obtain ⟨⟨y, σ1⟩, h1, ⟨z, σ2⟩, h2, h3, h4⟩ := h
  simp only at h3
  subst h3
  exact ⟨_, σ1, σ2, h1, h2, h4⟩
theorem pq_of {o : Option Int} {o2 : Option (Int × St)} {I : St → Prop} (h : Hp o (fun y => Hp o2 (fun q => q.1 = y ∧ I q.2))) : ∃ y σ2, o = some y ∧ o2 = some (y, σ2) ∧ I σ2 := by
  obtain ⟨y, h1, ⟨z, σ2⟩, h2, h3, h4⟩ := h
  simp only at h3
  subst h3
  exact ⟨_, σ2, h1, h2, h4⟩
