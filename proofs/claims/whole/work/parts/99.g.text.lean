/-! THE TEXT: its tokens, as both read them -/
/-- the end of a row of bytes that P holds of -/
def spn (P : Int → Bool) (b : Nat → Int) : Nat → Nat → Nat
  | 0, p => p
  | f + 1, p => if P (b p) = true then spn P b f (p + 1) else p
def en (P : Int → Bool) (b : Nat → Int) (n p : Nat) : Nat := spn P b (n - p) p
theorem en_ge {P : Int → Bool} {b : Nat → Int} {n p : Nat} (h : n ≤ p) : en P b n p = p := by
  unfold en
  rw [show n - p = 0 by omega]; rfl
theorem en_go {P : Int → Bool} {b : Nat → Int} {n p : Nat} (h : p < n) (hp : P (b p) = true) : en P b n p = en P b n (p + 1) := by
  unfold en
  rw [show n - p = (n - (p + 1)) + 1 by omega]
  show (if P (b p) = true then spn P b (n - (p + 1)) (p + 1) else p) = _
  rw [if_pos hp]
theorem en_no {P : Int → Bool} {b : Nat → Int} {n p : Nat} (h : p < n) (hp : P (b p) = false) : en P b n p = p := by
  unfold en
  rw [show n - p = (n - (p + 1)) + 1 by omega]
  show (if P (b p) = true then spn P b (n - (p + 1)) (p + 1) else p) = _
  rw [if_neg (by rw [hp]; decide)]
theorem spn_sp {P : Int → Bool} {b : Nat → Int} : ∀ f p, (p ≤ spn P b f p ∧ spn P b f p ≤ p + f) ∧ (∀ q, p ≤ q → q < spn P b f p → P (b q) = true) ∧ (spn P b f p < p + f → P (b (spn P b f p)) = false) := by
  intro f
  induction f with
  | zero =>
    intro p
    refine ⟨⟨Nat.le_refl _, Nat.le_refl _⟩, fun q h1 h2 => ?_, fun h => ?_⟩
    · have h2' : q < p := h2
      omega
    · have h' : p < p + 0 := h
      omega
  | succ f ih =>
    intro p
    by_cases hp : P (b p) = true
    · have e : spn P b (f + 1) p = spn P b f (p + 1) := if_pos hp
      rw [e]
      obtain ⟨⟨h1, h2⟩, h3, h4⟩ := ih (p + 1)
      refine ⟨⟨by omega, by omega⟩, fun q hq1 hq2 => ?_, fun h => h4 (by omega)⟩
      by_cases hqp : q = p
      · rw [hqp]; exact hp
      · exact h3 q (by omega) hq2
    · have e : spn P b (f + 1) p = p := if_neg hp
      rw [e]
      refine ⟨⟨Nat.le_refl _, by omega⟩, fun q h1 h2 => by omega, fun _ => ?_⟩
      cases hc : P (b p) with
      | true => exact absurd hc hp
      | false => rfl
theorem en_sp {P : Int → Bool} {b : Nat → Int} {n p : Nat} (h : p ≤ n) : (p ≤ en P b n p ∧ en P b n p ≤ n) ∧ (∀ q, p ≤ q → q < en P b n p → P (b q) = true) ∧ (en P b n p < n → P (b (en P b n p)) = false) := by
  obtain ⟨⟨h1, h2⟩, h3, h4⟩ := spn_sp (P := P) (b := b) (n - p) p
  unfold en
  exact ⟨⟨h1, by omega⟩, h3, fun h => h4 (by omega)⟩
def isL (c : Int) : Bool := decide (97 ≤ c ∧ c ≤ 122)
def isD (c : Int) : Bool := decide (48 ≤ c ∧ c ≤ 57)
def isB (c : Int) : Bool := decide (c = 9 ∨ c = 10 ∨ c = 13 ∨ c = 32)
theorem isL_sp {c : Int} : isL c = true ↔ 97 ≤ c ∧ c ≤ 122 := decide_eq_true_iff
theorem isD_sp {c : Int} : isD c = true ↔ 48 ≤ c ∧ c ≤ 57 := decide_eq_true_iff
theorem isB_sp {c : Int} : isB c = true ↔ c = 9 ∨ c = 10 ∨ c = 13 ∨ c = 32 := decide_eq_true_iff
theorem isL_no {c : Int} : isL c = false ↔ ¬ (97 ≤ c ∧ c ≤ 122) := decide_eq_false_iff_not
theorem isD_no {c : Int} : isD c = false ↔ ¬ (48 ≤ c ∧ c ≤ 57) := decide_eq_false_iff_not
theorem isB_no {c : Int} : isB c = false ↔ ¬ (c = 9 ∨ c = 10 ∨ c = 13 ∨ c = 32) := decide_eq_false_iff_not
/-- a name's letters, the last one first -/
def lst (b : Nat → Int) (s : Nat) : Nat → List Int
  | 0 => []
  | k + 1 => (b (s + k) - 96) :: lst b s k
/-- letters as a number -/
def nB (B : Int) : List Int → Int
  | [] => 0
  | d :: r => B * nB B r + d
def okL (l : List Int) : Prop := ∀ d, d ∈ l → 1 ≤ d ∧ d ≤ 26
/-- an int's digits -/
def dgt (b : Nat → Int) (s : Nat) : Nat → Int
  | 0 => 0
  | k + 1 => 10 * dgt b s k + (b (s + k) - 48)
theorem lst_len {b : Nat → Int} {s : Nat} : ∀ k, (lst b s k).length = k := by
  intro k
  induction k with
  | zero => rfl
  | succ k ih => show (lst b s k).length + 1 = k + 1; rw [ih]
theorem lst_ok {b : Nat → Int} {s : Nat} : ∀ k, (∀ q, s ≤ q → q < s + k → isL (b q) = true) → okL (lst b s k) := by
  intro k
  induction k with
  | zero => intro _ d hd; exact absurd hd (by simp [lst])
  | succ k ih =>
    intro h d hd
    rcases List.mem_cons.mp hd with hd | hd
    · have := isL_sp.mp (h (s + k) (by omega) (by omega))
      omega
    · exact ih (fun q h1 h2 => h q h1 (by omega)) d hd
theorem okL_tl {d : Int} {r : List Int} (h : okL (d :: r)) : (1 ≤ d ∧ d ≤ 26) ∧ okL r := ⟨h d (List.mem_cons_self ..), fun x hx => h x (List.mem_cons_of_mem _ hx)⟩
def bd32 : Nat → Nat
  | 0 => 1
  | k + 1 => 32 * bd32 k
def bd27 : Nat → Nat
  | 0 => 1
  | k + 1 => 27 * bd27 k
theorem nB32_bd : ∀ l : List Int, okL l → 0 ≤ nB 32 l ∧ nB 32 l < bd32 l.length := by
  intro l
  induction l with
  | nil => intro _; exact ⟨Int.le_refl _, by decide⟩
  | cons d r ih =>
    intro h
    obtain ⟨h1, h2⟩ := okL_tl h
    obtain ⟨h3, h4⟩ := ih h2
    have e1 : nB 32 (d :: r) = 32 * nB 32 r + d := rfl
    have e2 : bd32 (d :: r).length = 32 * bd32 r.length := rfl
    rw [e1, e2]
    omega
theorem nB27_bd : ∀ l : List Int, okL l → 0 ≤ nB 27 l ∧ nB 27 l < bd27 l.length := by
  intro l
  induction l with
  | nil => intro _; exact ⟨Int.le_refl _, by decide⟩
  | cons d r ih =>
    intro h
    obtain ⟨h1, h2⟩ := okL_tl h
    obtain ⟨h3, h4⟩ := ih h2
    have e1 : nB 27 (d :: r) = 27 * nB 27 r + d := rfl
    have e2 : bd27 (d :: r).length = 27 * bd27 r.length := rfl
    rw [e1, e2]
    omega
theorem bd_small : ∀ k : Fin 9, bd32 k.val ≤ 1099511627776 ∧ bd27 k.val ≤ 282429536481 := by decide
theorem nB32_inj : ∀ l l' : List Int, okL l → okL l' → nB 32 l = nB 32 l' → l = l' := by
  intro l
  induction l with
  | nil =>
    intro l' _ h' he
    cases l' with
    | nil => rfl
    | cons d r =>
      obtain ⟨h1, h2⟩ := okL_tl h'
      have := (nB32_bd r h2).1
      have e1 : nB 32 (d :: r) = 32 * nB 32 r + d := rfl
      have e0 : nB 32 ([] : List Int) = 0 := rfl
      omega
  | cons d r ih =>
    intro l' h h' he
    obtain ⟨h1, h2⟩ := okL_tl h
    have e1 : nB 32 (d :: r) = 32 * nB 32 r + d := rfl
    have p1 := (nB32_bd r h2).1
    cases l' with
    | nil =>
      have e0 : nB 32 ([] : List Int) = 0 := rfl
      omega
    | cons d' r' =>
      obtain ⟨h3, h4⟩ := okL_tl h'
      have e2 : nB 32 (d' :: r') = 32 * nB 32 r' + d' := rfl
      have p2 := (nB32_bd r' h4).1
      have hd : d = d' := by omega
      have hr : nB 32 r = nB 32 r' := by omega
      rw [hd, ih r' h2 h4 hr]
theorem nB27_inj : ∀ l l' : List Int, okL l → okL l' → nB 27 l = nB 27 l' → l = l' := by
  intro l
  induction l with
  | nil =>
    intro l' _ h' he
    cases l' with
    | nil => rfl
    | cons d r =>
      obtain ⟨h1, h2⟩ := okL_tl h'
      have := (nB27_bd r h2).1
      have e1 : nB 27 (d :: r) = 27 * nB 27 r + d := rfl
      have e0 : nB 27 ([] : List Int) = 0 := rfl
      omega
  | cons d r ih =>
    intro l' h h' he
    obtain ⟨h1, h2⟩ := okL_tl h
    have e1 : nB 27 (d :: r) = 27 * nB 27 r + d := rfl
    have p1 := (nB27_bd r h2).1
    cases l' with
    | nil =>
      have e0 : nB 27 ([] : List Int) = 0 := rfl
      omega
    | cons d' r' =>
      obtain ⟨h3, h4⟩ := okL_tl h'
      have e2 : nB 27 (d' :: r') = 27 * nB 27 r' + d' := rfl
      have p2 := (nB27_bd r' h4).1
      have hd : d = d' := by omega
      have hr : nB 27 r = nB 27 r' := by omega
      rw [hd, ih r' h2 h4 hr]
theorem letter5 {x d : Int} (hx : 0 ≤ x ∧ x < 72057594037927936) (hd : 0 ≤ d ∧ d < 32) : orL (shlL x 5) d = 32 * x + d := by
  obtain ⟨a, rfl⟩ := Int.eq_ofNat_of_zero_le hx.1
  obtain ⟨e, rfl⟩ := Int.eq_ofNat_of_zero_le hd.1
  have ha : a < 72057594037927936 := by omega
  have he : e < 32 := by omega
  have hsh : ((Int32.ofInt 5).toInt64 &&& 63).toBitVec.smod 64 = BitVec.ofNat 64 5 := by decide
  have e1 : (Int64.ofInt (a : Int)).toBitVec = BitVec.ofNat 64 a := by
    show BitVec.ofInt 64 (a : Int) = _
    simp
  have e2 : (Int64.ofInt (e : Int)).toBitVec = BitVec.ofNat 64 e := by
    show BitVec.ofInt 64 (e : Int) = _
    simp
  have e3 : (Int64.ofInt ((32 * a + e : Nat) : Int)).toBitVec = BitVec.ofNat 64 (32 * a + e) := by
    show BitVec.ofInt 64 ((32 * a + e : Nat) : Int) = _
    rw [BitVec.ofInt_natCast]
  have hb : (Int64.ofInt (a : Int) <<< ((Int32.ofInt 5).toInt64 &&& 63)) ||| Int64.ofInt (e : Int) = Int64.ofInt ((32 * a + e : Nat) : Int) := by
    apply Int64.toBitVec_inj.mp
    rw [Int64.toBitVec_or, Int64.toBitVec_shiftLeft, hsh, e1, e2, e3]
    apply BitVec.eq_of_toNat_eq
    rw [BitVec.toNat_or, BitVec.shiftLeft_eq', BitVec.toNat_shiftLeft]
    simp only [BitVec.toNat_ofNat]
    rw [Nat.mod_eq_of_lt (show a < 2 ^ 64 by omega), Nat.mod_eq_of_lt (show e < 2 ^ 64 by omega), Nat.mod_eq_of_lt (show 5 < 2 ^ 64 by omega), Nat.mod_eq_of_lt (show 32 * a + e < 2 ^ 64 by omega)]
    have hs : a <<< 5 = 32 * a := by rw [Nat.shiftLeft_eq]; omega
    rw [Nat.mod_eq_of_lt (show a <<< 5 < 2 ^ 64 by omega), ← Nat.shiftLeft_add_eq_or_of_lt (show e < 2 ^ 5 by omega) a, hs]
  unfold orL shlL
  rw [Int64.ofInt_toInt, hb]
  have := wl_id (x := ((32 * a + e : Nat) : Int)) ⟨by omega, by omega⟩
  unfold wl at this
  rw [this]
  omega
theorem lc0 {x y : Int} : lcI x y = 0 ↔ x = y := by
  unfold lcI
  by_cases h1 : y < x
  · rw [if_pos h1]
    exact ⟨fun h => absurd h (by decide), fun h => by omega⟩
  · rw [if_neg h1]
    by_cases h2 : x = y
    · rw [if_pos h2]; exact ⟨fun _ => h2, fun _ => rfl⟩
    · rw [if_neg h2]; exact ⟨fun h => absurd h (by decide), fun h => absurd h h2⟩
/-! the words -/
def WORDL : List (List Int) := [[20, 18, 15, 2, 1], [14, 18, 21, 2], [5, 4, 15, 3], [15, 4], [5, 19, 12, 5], [4, 14, 5], [18, 15, 6], [15, 7], [19, 1, 8], [6, 9], [19, 23, 15, 14, 11], [5, 20, 1, 12], [5, 22, 1, 5, 12], [16, 15, 15, 12], [11, 18, 1, 13], [20, 5, 5, 13], [20, 15, 14], [18, 5, 16, 1, 16], [5, 11, 1, 20], [12, 12, 5, 20], [12, 12, 9, 20], [20, 9, 1, 23], [4, 5, 8, 3, 20, 1, 23], [5, 16, 9, 23], [8, 20, 9, 23], [5, 20, 9, 18, 23]]
def W5 : List Int := [1130068, 87630, 113797, 143, 176741, 5572, 6642, 239, 8243, 294, 12009203, 394885, 12748485, 409072, 427595, 431284, 14836, 16826546, 656741, 660876, 664972, 754996, 24750694564, 763397, 763528, 24716933]
def KML : List Int := [32, 30, 20, 33, 36, 21, 38, 22, 42, 35, 41, 44, 28, 34, 25, 37, 39, 40, 29, 31, 24, 23, 45, 26, 43, 27, 1, 2, 4, 0, 3]
def wrdF : List Int → Int → Int → Int
  | [], i, _ => i
  | a :: r, i, x => if a = x then i else wrdF r (i + 1) x
/-- the class's number of a word; 26: a name -/
def wrd (x : Int) : Int := wrdF W5 0 x
/-- the model's kind of a word that has x at a name -/
def kwN (x : Int) : Nat → Int
  | 0 => 1
  | j + 1 => if KEYS.getD j 0 = x then 20 + (j : Int) else kwN x j
theorem wrdF_sp : ∀ (l : List Int) (i x : Int), (∃ j : Nat, j < l.length ∧ l.getD j 0 = x ∧ wrdF l i x = i + j) ∨ ((∀ j : Nat, j < l.length → l.getD j 0 ≠ x) ∧ wrdF l i x = i + (l.length : Nat)) := by
  intro l
  induction l with
  | nil => intro i x; exact Or.inr ⟨fun j h => absurd h (Nat.not_lt_zero _), by show i = i + ((0 : Nat) : Int); omega⟩
  | cons a r ih =>
    intro i x
    by_cases h : a = x
    · exact Or.inl ⟨0, Nat.succ_pos _, h, by show (if a = x then i else _) = _; rw [if_pos h]; omega⟩
    · have e : wrdF (a :: r) i x = wrdF r (i + 1) x := if_neg h
      rw [e]
      rcases ih (i + 1) x with ⟨j, h1, h2, h3⟩ | ⟨h1, h2⟩
      · refine Or.inl ⟨j + 1, Nat.succ_lt_succ h1, h2, ?_⟩
        rw [h3]; omega
      · refine Or.inr ⟨fun j hj => ?_, ?_⟩
        · cases j with
          | zero => exact h
          | succ j => exact h1 j (Nat.lt_of_succ_lt_succ hj)
        · rw [h2]
          show i + 1 + _ = i + ((r.length + 1 : Nat) : Int)
          omega
theorem kwN_sp (x : Int) : ∀ m, (∃ j : Nat, j < m ∧ KEYS.getD j 0 = x ∧ kwN x m = 20 + (j : Int)) ∨ ((∀ j : Nat, j < m → KEYS.getD j 0 ≠ x) ∧ kwN x m = 1) := by
  intro m
  induction m with
  | zero => exact Or.inr ⟨fun j h => absurd h (Nat.not_lt_zero _), rfl⟩
  | succ m ih =>
    by_cases h : KEYS.getD m 0 = x
    · exact Or.inl ⟨m, Nat.lt_succ_self _, h, if_pos h⟩
    · have e : kwN x (m + 1) = kwN x m := if_neg h
      rw [e]
      rcases ih with ⟨j, h1, h2, h3⟩ | ⟨h1, h2⟩
      · exact Or.inl ⟨j, by omega, h2, h3⟩
      · refine Or.inr ⟨fun j hj => ?_, h2⟩
        by_cases hjm : j = m
        · rw [hjm]; exact h
        · exact h1 j (by omega)
theorem words_all : ∀ w : Fin 26, (∀ d ∈ WORDL.getD w.val [], 1 ≤ d ∧ d ≤ 26) ∧ W5.getD w.val 0 = nB 32 (WORDL.getD w.val []) ∧ wrd (nB 32 (WORDL.getD w.val [])) = (w.val : Int) ∧ kwN (nB 27 (WORDL.getD w.val [])) 26 = KML.getD w.val 0 ∧ (WORDL.getD w.val []).length ≤ 7 := by decide +kernel
theorem keys_all : ∀ k : Fin 26, ∃ w : Fin 26, KEYS.getD k.val 0 = nB 27 (WORDL.getD w.val []) := by decide +kernel
/-- one text, two numbers: the same word -/
theorem word_same {l : List Int} (h : okL l) (h8 : l.length ≤ 8) : (0 ≤ wrd (nB 32 l) ∧ wrd (nB 32 l) ≤ 26) ∧ (if l.length ≤ 7 then kwN (nB 27 l) 26 else 1) = KML.getD (wrd (nB 32 l)).toNat 0 := by
  by_cases hw : ∃ w : Fin 26, l = WORDL.getD w.val []
  · obtain ⟨w, rfl⟩ := hw
    obtain ⟨-, -, g1, g2, g3⟩ := words_all w
    rw [g1, if_pos g3, g2]
    have := w.isLt
    exact ⟨⟨by omega, by omega⟩, by rw [Int.toNat_natCast]⟩
  · have hno : ∀ w : Fin 26, l ≠ WORDL.getD w.val [] := fun w q => hw ⟨w, q⟩
    have e1 : wrd (nB 32 l) = 26 := by
      rcases wrdF_sp W5 0 (nB 32 l) with ⟨j, h1, h2, -⟩ | ⟨-, h2⟩
      · exfalso
        have h1' : j < 26 := h1
        obtain ⟨g0, g1, -⟩ := words_all ⟨j, h1'⟩
        exact hno ⟨j, h1'⟩ (nB32_inj _ _ h g0 (h2.symm.trans g1))
      · exact h2
    have e2 : kwN (nB 27 l) 26 = 1 := by
      rcases kwN_sp (nB 27 l) 26 with ⟨j, h1, h2, -⟩ | ⟨-, h2⟩
      · exfalso
        obtain ⟨w, hw2⟩ := keys_all ⟨j, h1⟩
        obtain ⟨g0, -⟩ := words_all w
        exact hno w (nB27_inj _ _ h g0 (h2.symm.trans hw2))
      · exact h2
    rw [e1, e2]
    refine ⟨⟨by decide, by decide⟩, ?_⟩
    split <;> rfl
/-! the tokens -/
/-- the class's kind of the token at s -/
def tkK (b : Nat → Int) (n s : Nat) : Int :=
  if n ≤ s then 29 else if isL (b s) = true then (if en isL b n s - s ≤ 8 then wrd (nB 32 (lst b s (en isL b n s - s))) else 30)
  else if isD (b s) = true then (if en isD b n s - s ≤ 2 then 27 else 30) else if b s = 59 then 28 else 30
/-- the model's -/
def tkM (b : Nat → Int) (n s : Nat) : Int :=
  if n ≤ s then 0 else if isL (b s) = true then (if en isL b n s - s ≤ 8 then (if en isL b n s - s ≤ 7 then kwN (nB 27 (lst b s (en isL b n s - s))) 26 else 1) else 3)
  else if isD (b s) = true then (if en isD b n s - s ≤ 2 then 2 else 3) else if b s = 59 then 4 else 3
/-- where it ends -/
def tkE (b : Nat → Int) (n s : Nat) : Nat := if isL (b s) = true then en isL b n s else if isD (b s) = true then en isD b n s else s + 1
/-- where the i-th token begins -/
def tkS (b : Nat → Int) (n : Nat) : Nat → Nat
  | 0 => en isB b n 0
  | i + 1 => en isB b n (tkE b n (tkS b n i))
theorem tk_same {b : Nat → Int} {n s : Nat} : (0 ≤ tkK b n s ∧ tkK b n s ≤ 30) ∧ tkM b n s = KML.getD (tkK b n s).toNat 0 := by
  unfold tkK tkM
  by_cases h1 : n ≤ s
  · rw [if_pos h1, if_pos h1]; decide
  · rw [if_neg h1, if_neg h1]
    by_cases h2 : isL (b s) = true
    · rw [if_pos h2, if_pos h2]
      by_cases h3 : en isL b n s - s ≤ 8
      · rw [if_pos h3, if_pos h3]
        have hs := en_sp (P := isL) (b := b) (n := n) (p := s) (by omega)
        have hok : okL (lst b s (en isL b n s - s)) := lst_ok _ (fun q g1 g2 => hs.2.1 q g1 (by omega))
        have hl := lst_len (b := b) (s := s) (en isL b n s - s)
        obtain ⟨⟨g1, g2⟩, g3⟩ := word_same hok (by omega)
        rw [hl] at g3
        exact ⟨⟨g1, by omega⟩, g3⟩
      · rw [if_neg h3, if_neg h3]; decide
    · rw [if_neg h2, if_neg h2]
      by_cases h3 : isD (b s) = true
      · rw [if_pos h3, if_pos h3]
        by_cases h4 : en isD b n s - s ≤ 2
        · rw [if_pos h4, if_pos h4]; decide
        · rw [if_neg h4, if_neg h4]; decide
      · rw [if_neg h3, if_neg h3]
        by_cases h4 : b s = 59
        · rw [if_pos h4, if_pos h4]; decide
        · rw [if_neg h4, if_neg h4]; decide
theorem tkE_sp {b : Nat → Int} {n s : Nat} (h : s < n) : s < tkE b n s ∧ tkE b n s ≤ n := by
  unfold tkE
  by_cases h2 : isL (b s) = true
  · rw [if_pos h2, en_go h h2]
    have := (en_sp (P := isL) (b := b) (n := n) (p := s + 1) (by omega)).1
    omega
  · rw [if_neg h2]
    by_cases h3 : isD (b s) = true
    · rw [if_pos h3, en_go h h3]
      have := (en_sp (P := isD) (b := b) (n := n) (p := s + 1) (by omega)).1
      omega
    · rw [if_neg h3]; omega
theorem tkS_le {b : Nat → Int} {n : Nat} : ∀ i, (∀ j, j < i → tkS b n j < n) → tkS b n i ≤ n := by
  intro i
  cases i with
  | zero => intro _; exact (en_sp (Nat.zero_le n)).1.2
  | succ i => intro h; exact (en_sp (tkE_sp (h i (Nat.lt_succ_self i))).2).1.2
theorem tk_lt {b : Nat → Int} {n s : Nat} (h : tkK b n s ≠ 29) : s < n := by
  unfold tkK at h
  by_cases h1 : n ≤ s
  · rw [if_pos h1] at h; exact absurd rfl h
  · omega
theorem tkS_mono {b : Nat → Int} {n : Nat} : ∀ i j, j < i → (∀ q, q < i → tkS b n q < n) → tkS b n j < tkS b n i := by
  intro i
  induction i with
  | zero => intro j h; omega
  | succ i ih =>
    intro j hj h
    have h1 := tkE_sp (b := b) (h i (Nat.lt_succ_self i))
    have h2 := (en_sp (P := isB) (b := b) h1.2).1.1
    have e : tkS b n (i + 1) = en isB b n (tkE b n (tkS b n i)) := rfl
    by_cases hji : j = i
    · subst hji; omega
    · have := ih j (by omega) (fun q hq => h q (by omega))
      omega
theorem dgt_bd {b : Nat → Int} {s : Nat} : ∀ k, (∀ q, s ≤ q → q < s + k → isD (b q) = true) → k ≤ 2 → 0 ≤ dgt b s k ∧ (k ≤ 1 → dgt b s k ≤ 9) ∧ dgt b s k ≤ 99 := by
  intro k
  induction k with
  | zero =>
    intro _ _
    have e : dgt b s 0 = 0 := rfl
    rw [e]; exact ⟨by decide, fun _ => by decide, by decide⟩
  | succ k ih =>
    intro h hk
    obtain ⟨h1, h2, h3⟩ := ih (fun q g1 g2 => h q g1 (by omega)) (by omega)
    have := isD_sp.mp (h (s + k) (by omega) (by omega))
    have h2' := h2 (by omega)
    have e : dgt b s (k + 1) = 10 * dgt b s k + (b (s + k) - 48) := rfl
    rw [e]
    refine ⟨by omega, fun hk1 => ?_, by omega⟩
    have hk0 : k = 0 := by omega
    subst hk0
    have e0 : dgt b s 0 = 0 := rfl
    rw [e0]; omega
