/-! INV: what holds between the two objects, piece by piece -/
def ag (a : Nat) : Nat := 39 + 7 * a
theorem rf_ag {a : Nat} (h : a < 8) : rf 38 a = 39 + 7 * a := by
  have : ∀ i : Fin 8, rf 38 i.val = 39 + 7 * i.val := by decide
  exact this ⟨a, h⟩
theorem rf_near {a : Nat} (h : a < 10) : rf 5 a = 6 + a := by
  have : ∀ i : Fin 10, rf 5 i.val = 6 + i.val := by decide
  exact this ⟨a, h⟩
theorem rf_can {a : Nat} (h : a < 8) : rf 96 a = 97 + a := by
  have : ∀ i : Fin 8, rf 96 i.val = 97 + i.val := by decide
  exact this ⟨a, h⟩
theorem rf_next {a : Nat} (h : a < 8) : rf 105 a = 106 + a := by
  have : ∀ i : Fin 8, rf 105 i.val = 106 + i.val := by decide
  exact this ⟨a, h⟩
theorem rf_met {a : Nat} (h : a < 8) : rf 132 a = 133 + a := by
  have : ∀ i : Fin 8, rf 132 i.val = 133 + i.val := by decide
  exact this ⟨a, h⟩
theorem rf_lv {a : Nat} (h : a < 10) : rf 142 a = 143 + a := by
  have : ∀ i : Fin 10, rf 142 i.val = 143 + i.val := by decide
  exact this ⟨a, h⟩
theorem rf_has {a : Nat} (h : a < 8) : rf 155 a = 156 + a := by
  have : ∀ i : Fin 8, rf 155 i.val = 156 + i.val := by decide
  exact this ⟨a, h⟩
/-- the towns -/
def iTown (σ : St) : Prop := (σ 170 30 = σ 1 4 ∧ 0 ≤ σ 1 4 ∧ σ 1 4 ≤ 10) ∧ (σ 170 31 = σ 1 5 ∧ 0 ≤ σ 1 5 ∧ σ 1 5 ≤ 24) ∧ ∀ w : Nat, (w : Int) < σ 1 5 → (σ 187 w = σ 2 w ∧ σ 188 w = σ 3 w ∧ σ 189 w = σ 4 w) ∧ (0 ≤ σ 2 w ∧ σ 2 w < σ 1 4) ∧ (0 ≤ σ 3 w ∧ σ 3 w < σ 1 4) ∧ σ 2 w ≠ σ 3 w ∧ 1 ≤ σ 4 w ∧ σ 4 w ≤ 9
def dTown : Rg := ([(2, 4), (187, 189)], [(170, 30), (1, 4), (170, 31), (1, 5)])
/-- a way of length l from a to b, of the first n ways -/
def Edge (σ : St) (n : Int) (a b : Nat) (l : Int) : Prop := ∃ w : Nat, (w : Int) < n ∧ σ 4 w = l ∧ ((σ 2 w = a ∧ σ 3 w = b) ∨ (σ 2 w = b ∧ σ 3 w = a))
/-- a walk of k ways -/
def Walk (E : Nat → Nat → Int → Prop) : Nat → Nat → Nat → Int → Prop
  | 0, a, b, l => a = b ∧ l = 0
  | k + 1, a, b, l => ∃ x l1 l2, E a x l1 ∧ Walk E k x b l2 ∧ l = l1 + l2
/-- the table of the nearest ways' lengths; 1000 where there is none -/
def isDM (E : Nat → Nat → Int → Prop) (M : Nat → Nat → Int) : Prop :=
  (∀ a b, a < 10 → b < 10 → 0 ≤ M a b ∧ M a b ≤ 1000) ∧ (∀ a, a < 10 → M a a = 0) ∧
  (∀ a x l b, a < 10 → x < 10 → b < 10 → E a x l → M a b ≤ l + M x b) ∧
  (∀ a b, a < 10 → b < 10 → M a b < 1000 → ∃ k, Walk E k a b (M a b))
def nM (σ : St) (a b : Nat) : Int := if σ (6 + a) b = -1 then 1000 else σ (6 + a) b
def iNear (σ : St) : Prop := isDM (Edge σ (σ 1 5)) (nM σ) ∧ ∀ a b, a < 10 → b < 10 → -1 ≤ σ (6 + a) b ∧ σ (6 + a) b ≤ 100
def dNear : Rg := ([(2, 4), (6, 15)], [(1, 5)])
/-- the tapes -/
def iTape (σ : St) : Prop := (σ 170 2 = σ 16 0 ∧ 0 ≤ σ 16 0 ∧ σ 16 0 ≤ 2000) ∧ ∀ i : Nat, (i : Int) < σ 16 0 → σ 21 i = andI (σ 171 i) 255
def dTape : Rg := ([(21, 21), (171, 171)], [(170, 2), (16, 0)])
/-- what the latest read found -/
def iPlace (σ : St) : Prop := (σ 118 1 = 0 ∧ σ 170 16 = -1) ∨ (σ 118 1 ≠ 0 ∧ σ 170 16 = σ 118 2)
def dPlace : Rg := ([], [(118, 1), (118, 2), (170, 16)])
/-- the words of the codes' language, as the model numbers them -/
def KEYS : List Int := [70097, 4027, 204, 453701, 400557, 257105, 459707, 12584543, 6477035, 394691, 55175, 397641, 582248, 123, 247552, 249, 107681, 259679, 4797, 10631, 8534556, 6132988, 5878, 459818, 237470, 8935713994]
def iKeys (σ : St) : Prop := ∀ k : Nat, k < 26 → σ 177 k = KEYS.getD k 0
def dKeys : Rg := ([(177, 177)], [])
/-- the agents -/
def iAg (σ : St) : Prop := (σ 170 35 = σ 0 6 ∧ 0 ≤ σ 0 6 ∧ σ 0 6 ≤ 8) ∧ ∀ a : Nat, a < 8 →
  ((a : Int) < σ 0 6 → (σ 190 a = σ (39 + 7 * a) 0 ∧ 0 ≤ σ (39 + 7 * a) 0 ∧ σ (39 + 7 * a) 0 < σ 1 4) ∧ (σ 191 a = σ (39 + 7 * a) 1 ∧ 0 ≤ σ (39 + 7 * a) 1 ∧ σ (39 + 7 * a) 1 < 256) ∧ σ 192 a = σ (39 + 7 * a) 2) ∧
  (-1 ≤ σ (39 + 7 * a) 2 ∧ σ (39 + 7 * a) 2 < σ 22 8) ∧ (σ 0 6 ≤ (a : Int) → σ (39 + 7 * a) 2 = -1)
def dAg : Rg := ([(190, 192)], [(170, 35), (0, 6), (1, 4), (22, 8), (39, 0), (46, 0), (53, 0), (60, 0), (67, 0), (74, 0), (81, 0), (88, 0), (39, 1), (46, 1), (53, 1), (60, 1), (67, 1), (74, 1), (81, 1), (88, 1), (39, 2), (46, 2), (53, 2), (60, 2), (67, 2), (74, 2), (81, 2), (88, 2)])
/-- the books -/
def iBook (σ : St) : Prop := (σ 170 41 = σ 30 5 ∧ 0 ≤ σ 30 5 ∧ σ 30 5 ≤ 150) ∧ ∀ i : Nat, (i : Int) < σ 30 5 →
  (σ 195 i = σ 31 i ∧ 0 ≤ σ 31 i ∧ σ 31 i ≤ 3) ∧ σ 196 i = σ 32 i ∧
  (σ 31 i = 0 → (σ 197 i = σ 33 i ∧ 0 ≤ σ 33 i ∧ σ 33 i < σ 1 4) ∧ (σ 198 i = σ 34 i ∧ σ 199 i = σ 35 i ∧ 0 ≤ σ 34 i ∧ σ 34 i < σ 35 i ∧ σ 35 i ≤ 96)) ∧
  (σ 31 i = 1 → (σ 197 i = σ 33 i ∧ 0 ≤ σ 33 i ∧ σ 33 i < σ 1 4) ∧ (σ 198 i = σ 34 i ∧ 0 ≤ σ 34 i ∧ σ 34 i < 96)) ∧
  (σ 31 i = 2 → (σ 198 i = σ 34 i ∧ 0 ≤ σ 34 i ∧ σ 34 i < 96)) ∧
  (σ 31 i = 3 → 0 ≤ σ 32 i ∧ σ 32 i < i)
def dBook : Rg := ([(31, 35), (195, 199)], [(170, 41), (30, 5), (1, 4)])
/-- fact f is struck among the first n -/
def Strk (σ : St) (n : Int) (f : Nat) : Prop := ∃ k : Nat, f < k ∧ (k : Int) < n ∧ σ 195 k = 3 ∧ σ 196 k = f
/-- spot s is watched in tick t, by the first n facts -/
def Wtch (σ : St) (n : Int) (s t : Nat) : Prop := ∃ k : Nat, (k : Int) < n ∧ σ 195 k = 0 ∧ ¬ Strk σ n k ∧ σ 197 k = s ∧ σ 198 k ≤ t ∧ (t : Int) < σ 199 k
/-- the k-th fact is a sight of agent a in tick t, not struck among the first n -/
def Sgt (σ : St) (n : Int) (a t k : Nat) : Prop := (k : Int) < n ∧ σ 195 k = 1 ∧ σ 196 k = a ∧ ¬ Strk σ n k ∧ σ 198 k = t
def Sgtd (σ : St) (n : Int) (a t : Nat) : Prop := ∃ k, Sgt σ n a t k
/-- agent a may be at spot s in tick t: seen there alone, or not seen and the spot not watched -/
def May (σ : St) (n : Int) (a t s : Nat) : Prop := (s : Int) < σ 170 30 ∧ ((Sgtd σ n a t ∧ ∀ k, Sgt σ n a t k → σ 197 k = s) ∨ (¬ Sgtd σ n a t ∧ ¬ Wtch σ n s t))
/-- not seen between two ticks -/
def Unsn (σ : St) (n : Int) (a t l : Nat) : Prop := ∀ d, t < d → d < t + l → d < 96 → ¬ Sgtd σ n a d
/-- a way of length l between s and o -/
def Way (σ : St) (s o l : Nat) : Prop := ∃ w : Nat, (w : Int) < σ 170 31 ∧ σ 189 w = l ∧ ((σ 187 w = s ∧ σ 188 w = o) ∨ (σ 187 w = o ∧ σ 188 w = s))
/-- a row from tick 0 can come to s in tick t -/
def Fth (σ : St) (n : Int) (a : Nat) : Nat → Nat → Prop
  | 0, s => May σ n a 0 s
  | t + 1, s => May σ n a (t + 1) s ∧ (Fth σ n a t s ∨ ∃ o l, ∃ _ : 1 ≤ l ∧ l ≤ t + 1, Way σ s o l ∧ Unsn σ n a (t + 1 - l) l ∧ Fth σ n a (t + 1 - l) o)
termination_by t => t
/-- a row at s in tick 95 - u can go on to the last tick -/
def Bck (σ : St) (n : Int) (a : Nat) : Nat → Nat → Prop
  | 0, s => May σ n a 95 s
  | u + 1, s => May σ n a (95 - (u + 1)) s ∧ (Bck σ n a u s ∨ ∃ o l, ∃ _ : 1 ≤ l, Way σ s o l ∧ Unsn σ n a (95 - (u + 1)) l ∧ (u + 1 < l ∨ ∃ _ : l ≤ u + 1, Bck σ n a (u + 1 - l) o))
termination_by u => u
def Can (σ : St) (n : Int) (a t s : Nat) : Prop := Fth σ n a t s ∧ Bck σ n a (95 - t) s
/-- of a state, what Can looks at: the ways, the first n facts -/
def vw (σ : St) (n : Int) : St := fun k j => if (195 ≤ k ∧ k ≤ 199 ∧ (j : Int) < n) ∨ (187 ≤ k ∧ k ≤ 189) ∨ (k = 170 ∧ (j = 30 ∨ j = 31)) then σ k j else 0
/-- what the model keeps of where agents can be -/
def iCan (σ : St) : Prop := σ 170 74 = -1 ∨ ((0 ≤ σ 170 74 ∧ σ 170 74 ≤ σ 170 41) ∧
  (∀ a t : Nat, (a : Int) < σ 170 35 → t < 96 → (σ 225 (96 * a + t) = 1 ∨ σ 225 (96 * a + t) = 0) ∧ (σ 225 (96 * a + t) = 1 ↔ Sgtd (vw σ (σ 170 74)) (σ 170 74) a t)) ∧
  (∀ a t s : Nat, (a : Int) < σ 170 35 → t < 96 → s < 10 → (σ 221 (960 * a + 10 * t + s) = 1 ∨ σ 221 (960 * a + 10 * t + s) = 0) ∧ (σ 221 (960 * a + 10 * t + s) = 1 ↔ Can (vw σ (σ 170 74)) (σ 170 74) a t s)))
def dCan : Rg := ([(187, 189), (195, 199), (221, 221), (225, 225)], [(170, 74), (170, 41), (170, 35), (170, 30), (170, 31)])
/-- what was fed -/
def iFeed (σ : St) : Prop := (∀ i : Nat, i < 8 → σ 0 6 ≤ (i : Int) → σ 228 i = -1 ∨ σ 170 82 = -1) ∧
  ((σ 164 3 = 0 ∧ σ 170 82 = -1 ∧ ∀ i : Nat, i < 8 → σ 166 i = -1) ∨
   ((1 ≤ σ 164 3 ∧ σ 164 3 ≤ 3) ∧ σ 170 82 = σ 164 3 ∧ (∀ i : Nat, i < 8 → σ 228 i = σ 166 i) ∧ ∀ w : Nat, (w : Int) < σ 164 3 → σ 229 w = σ 167 w))
def dFeed : Rg := ([(166, 167), (228, 229)], [(0, 6), (170, 82), (164, 3)])
/-- what the latest run left -/
def iRun (σ : St) : Prop := (σ 129 0 = 0 ∧ σ 129 1 = 0 ∧ σ 170 48 = -1) ∨
  ((σ 129 0 = 1 ∧ σ 170 48 = σ 129 1 ∧ 0 ≤ σ 129 1 ∧ σ 129 1 ≤ σ 0 6) ∧
   (∀ a : Nat, (a : Int) < σ 129 1 → a < 8 →
     (∀ t : Nat, t < 96 → σ 201 (96 * a + t) = σ (43 + 7 * a) t) ∧
     (∀ i : Nat, i < 8 → σ 202 (8 * a + i) = σ (44 + 7 * a) i ∧ σ 203 (8 * a + i) = σ (45 + 7 * a) i) ∧
     (σ 204 a = σ (39 + 7 * a) 16 ∧ σ 209 a = σ (39 + 7 * a) 17 ∧ σ 208 a = σ (39 + 7 * a) 18) ∧
     σ 207 (8 * a + a) = -1 ∧ (∀ b : Nat, (b : Int) < σ 129 1 → b < 8 → σ 207 (8 * a + b) = σ (133 + a) b)) ∧
   (∃ rk : Nat → Nat → Nat, ∀ a i : Nat, (a : Int) < σ 129 1 → a < 8 → i < 8 → rk a i ≤ 100 ∧ (σ 203 (8 * a + i) = -1 ∨ ∃ b : Nat, σ 203 (8 * a + i) = b ∧ (b : Int) < σ 129 1 ∧ rk b i < rk a i)) ∧
   (∀ s : Nat, s < 10 → (σ 205 s = σ 130 s ∧ 0 ≤ σ 130 s ∧ σ 130 s < 16) ∧ (0 ≤ σ 131 s ∧ σ 131 s < 256) ∧ ∀ i : Nat, i < 8 → (σ 206 (8 * s + i) ≠ -1 ↔ tb (σ 131 s) i = true)) ∧
   (σ 170 58 = σ 129 6 ∧ 0 ≤ σ 129 6 ∧ σ 129 6 ≤ 768) ∧ (∀ i : Nat, (i : Int) < σ 129 6 → σ 210 i = σ 141 i))
def dRun : Rg := ([(43, 45), (50, 52), (57, 59), (64, 66), (71, 73), (78, 80), (85, 87), (92, 94), (130, 131), (133, 141), (201, 210)], [(129, 0), (129, 1), (170, 48), (0, 6), (129, 6), (170, 58), (39, 16), (46, 16), (53, 16), (60, 16), (67, 16), (74, 16), (81, 16), (88, 16), (39, 17), (46, 17), (53, 17), (60, 17), (67, 17), (74, 17), (81, 17), (88, 17), (39, 18), (46, 18), (53, 18), (60, 18), (67, 18), (74, 18), (81, 18), (88, 18)])
/-- a step that goes on to the next one: the model's next step is the class's -/
def Sc (n : Nat) (f : Nat → Nat) (cd : Nat → Nat) (p : Nat) : Prop := p + 1 < n ∧ f (p + 1) = f p + 1 ∧ cd (p + 1) = cd p
/-- a step's target -/
def Tg (n : Nat) (cx : Nat → List Bool) (cd : Nat → Nat) (T : Int) (p t : Nat) (x : List Bool) : Prop := T = t ∧ t < n ∧ cx t = x ∧ cd t = cd p
/-- one step of a program: the class's at cells k0 + 1 .. k0 + 5, slot p; the model's at slot f p. cx: the loops (true) and met ones (false) that stand open there, the innermost first; cd: its code -/
def StOK (σ : St) (k0 n : Nat) (f : Nat → Nat) (cx : Nat → List Bool) (cd : Nat → Nat) (p : Nat) : Prop :=
  ((∃ k o m : Nat, ((k = 7 ∧ o = 0 ∧ m = 9) ∨ (k = 21 ∧ o = 1 ∧ m = 95) ∨ (k = 20 ∧ o = 2 ∧ m = 95) ∨ (k = 14 ∧ o = 3 ∧ m = 3) ∨ (k = 23 ∧ o = 4 ∧ m = 3) ∨ (k = 25 ∧ o = 5 ∧ m = 7) ∨ (k = 12 ∧ o = 6 ∧ m = 7) ∨ (k = 18 ∧ o = 7 ∧ m = 7) ∨ (k = 1 ∧ o = 8 ∧ m = 7) ∨ (k = 19 ∧ o = 9 ∧ m = 7) ∨ (k = 0 ∧ o = 10 ∧ m = 0)) ∧ σ (k0 + 1) p = k ∧ σ 181 (f p) = o ∧ σ 182 (f p) = σ (k0 + 2) p ∧ 0 ≤ σ (k0 + 2) p ∧ σ (k0 + 2) p ≤ m ∧ Sc n f cd p ∧ cx (p + 1) = cx p) ∨
   (σ (k0 + 1) p = 3 ∧ σ 181 (f p) = 11 ∧ (∃ c' : Nat, σ (k0 + 2) p = c' ∧ c' < cd p) ∧ σ 182 (f p) = σ (k0 + 2) p ∧ Sc n f cd p ∧ cx (p + 1) = cx p) ∨
   (σ (k0 + 1) p = 13 ∧ σ 181 (f p) = 12 ∧ σ 182 (f p) = σ (k0 + 2) p ∧ 0 ≤ σ (k0 + 2) p ∧ σ (k0 + 2) p ≤ 95 ∧ Sc n f cd p ∧ cx (p + 1) = true :: cx p ∧ ∃ t : Nat, Tg n cx cd (σ (k0 + 5) p) p t (cx p) ∧ p < t ∧ σ 184 (f p) = (f t : Int)) ∨
   (σ (k0 + 1) p = 31 ∧ σ 181 (f p) = 13 ∧ Sc n f cd p ∧ cx p = true :: cx (p + 1) ∧ ∃ t : Nat, Tg n cx cd (σ (k0 + 5) p) p t (cx p) ∧ t ≤ p ∧ σ 182 (f p) = (f t : Int)) ∨
   ((∃ k o m : Nat, ((k = 14 ∧ o = 0 ∧ m = 3) ∨ (k = 17 ∧ o = 1 ∧ m = 7) ∨ (k = 10 ∧ o = 2 ∧ m = 7) ∨ (k = 8 ∧ o = 3 ∧ m = 7) ∨ (k = 24 ∧ o = 4 ∧ m = 7) ∨ (k = 11 ∧ o = 5 ∧ m = 95) ∨ (k = 22 ∧ o = 6 ∧ m = 0)) ∧ σ (k0 + 3) p = k ∧ ((σ (k0 + 4) p = 1 ∧ σ 182 (f p) = 2 * o) ∨ (σ (k0 + 4) p = 0 ∧ σ 182 (f p) = 2 * o + 1)) ∧ (k ≠ 22 → σ 183 (f p) = σ (k0 + 2) p ∧ 0 ≤ σ (k0 + 2) p ∧ σ (k0 + 2) p ≤ m)) ∧ σ (k0 + 1) p = 9 ∧ σ 181 (f p) = 14 ∧ Sc n f cd p ∧ cx (p + 1) = cx p ∧ ∃ t : Nat, Tg n cx cd (σ (k0 + 5) p) p t (cx p) ∧ p < t ∧ σ 184 (f p) = (f t : Int)) ∨
   (σ (k0 + 1) p = 15 ∧ σ 181 (f p) = 16 ∧ σ 182 (f p) = σ (k0 + 2) p ∧ 0 ≤ σ (k0 + 2) p ∧ σ (k0 + 2) p ≤ 7 ∧ σ 183 (f p) = σ (k0 + 3) p ∧ 0 ≤ σ (k0 + 3) p ∧ σ (k0 + 3) p ≤ 95 ∧ Sc n f cd p ∧ cx (p + 1) = false :: cx p ∧ ∃ t : Nat, Tg n cx cd (σ (k0 + 5) p) p t (cx p) ∧ p < t ∧ σ 184 (f p) = (f t : Int)) ∨
   (σ (k0 + 1) p = 32 ∧ σ 181 (f p) = 15 ∧ ∃ t : Nat, Tg n cx cd (σ (k0 + 5) p) p t (cx p) ∧ p < t ∧ σ 182 (f p) = (f t : Int)) ∨
   (σ (k0 + 1) p = 33 ∧ σ 181 (f p) = 17 ∧ ∃ r, ∃ t : Nat, cx p = false :: r ∧ Tg n cx cd (σ (k0 + 5) p) p t r ∧ p < t ∧ ((t = p + 1 ∧ f (p + 1) = f p + 1) ∨ (σ 181 (f p + 1) = 15 ∧ σ 182 (f p + 1) = (f t : Int) ∧ f p + 1 < f n))) ∨
   (σ (k0 + 1) p = 34 ∧ σ 181 (f p) = 18 ∧ cx p = []))
/-- the class's program at cells k0 .. k0 + 7 is the model's in half L: n steps, c codes -/
def PgT (σ : St) (k0 L n c : Nat) (f : Nat → Nat) (cx : Nat → List Bool) (cd : Nat → Nat) : Prop :=
  (n ≤ 512 ∧ c ≤ 8 ∧ f 0 = 1000 * L ∧ f n ≤ 1000 * L + 1000) ∧ (∀ p, p < n → f p < f (p + 1) ∧ cd p < c ∧ (cx p).length ≤ 6 ∧ StOK σ k0 n f cx cd p) ∧
  (∀ p q, p ≤ q → q < n → cd p ≤ cd q) ∧ ∀ i, i < c → ∃ b : Nat, σ (k0 + 7) i = (b : Int) ∧ b < n ∧ cx b = [] ∧ cd b = i ∧ σ 180 (8 * L + i) = (f b : Int)
def iPg (σ : St) : Prop := ∃ L n c : Nat, ∃ f cx cd, σ 170 17 = (L : Int) ∧ L < 2 ∧ σ 22 7 = (n : Int) ∧ σ 22 8 = (c : Int) ∧ PgT σ 22 L n c f cx cd
/-- the codes -/
def iProg (σ : St) : Prop := (σ 170 17 = 0 ∨ σ 170 17 = 1) ∧ σ 178 (σ 170 17).toNat = σ 22 8 ∧ 0 ≤ σ 22 8 ∧ σ 22 8 ≤ 8 ∧ iPg σ
def dProg : Rg := ([(22, 29), (178, 184)], [(170, 17)])
def Inv (σ : St) : Prop := iTown σ ∧ iNear σ ∧ iTape σ ∧ iPlace σ ∧ iKeys σ ∧ iAg σ ∧ iBook σ ∧ iCan σ ∧ iFeed σ ∧ iRun σ ∧ iProg σ
