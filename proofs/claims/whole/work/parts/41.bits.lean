/-! BITS of an int -/
def tb (x : Int) (i : Nat) : Bool := (Int32.ofInt x).toBitVec.getLsbD i
theorem tb_hi (x : Int) {i : Nat} (h : 32 ≤ i) : tb x i = false := by
  unfold tb
  exact BitVec.getLsbD_of_ge _ _ h
theorem tb_and (x y : Int) (i : Nat) : tb (andI x y) i = (tb x i && tb y i) := by
  unfold tb andI
  rw [Int32.ofInt_toInt, Int32.toBitVec_and, BitVec.getLsbD_and]
theorem tb_or (x y : Int) (i : Nat) : tb (orI x y) i = (tb x i || tb y i) := by
  unfold tb orI
  rw [Int32.ofInt_toInt, Int32.toBitVec_or, BitVec.getLsbD_or]
theorem tb_xor (x y : Int) (i : Nat) : tb (xorI x y) i = (tb x i ^^ tb y i) := by
  unfold tb xorI
  rw [Int32.ofInt_toInt, Int32.toBitVec_xor, BitVec.getLsbD_xor]
theorem sh_amt : ∀ s : Fin 32, ((Int32.ofInt (s.val : Int)) &&& 31).toBitVec.smod 32 = BitVec.ofNat 32 s.val := by decide
theorem tb_shl (x : Int) {s : Nat} (hs : s < 32) (i : Nat) : tb (shlI x (s : Int)) i = (decide (i < 32) && (decide (s ≤ i) && tb x (i - s))) := by
  unfold tb shlI
  rw [Int32.ofInt_toInt, Int32.toBitVec_shiftLeft, sh_amt ⟨s, hs⟩]
  simp only [BitVec.shiftLeft_eq', BitVec.toNat_ofNat, BitVec.getLsbD_shiftLeft]
  rw [Nat.mod_eq_of_lt (by omega : s < 2 ^ 32)]
  by_cases h1 : i < 32 <;> by_cases h2 : i < s <;> simp [h1, h2] <;> omega
theorem tb_shr (x : Int) {s : Nat} (hs : s < 32) {i : Nat} (hi : i + s < 32) : tb (shrI x (s : Int)) i = tb x (i + s) := by
  unfold tb shrI
  rw [Int32.ofInt_toInt, Int32.toBitVec_shiftRight, sh_amt ⟨s, hs⟩]
  simp only [BitVec.sshiftRight_eq', BitVec.toNat_ofNat, BitVec.getLsbD_sshiftRight]
  rw [Nat.mod_eq_of_lt (by omega : s < 2 ^ 32)]
  simp [show i < 32 by omega, show s + i < 32 by omega, Nat.add_comm]
theorem tb_ext {x y : Int} (hx : InI x) (hy : InI y) (h : ∀ i, i < 32 → tb x i = tb y i) : x = y := by
  have : (Int32.ofInt x).toBitVec = (Int32.ofInt y).toBitVec := BitVec.eq_of_getLsbD_eq (fun i hi => h i hi)
  have : Int32.ofInt x = Int32.ofInt y := Int32.toBitVec_inj.mp this
  rw [← wr_id hx, ← wr_id hy]
  unfold wr
  rw [this]
theorem tb_nat (n i : Nat) (h : i < 32) : tb (n : Int) i = n.testBit i := by
  unfold tb
  rw [show (Int32.ofInt (n : Int)).toBitVec = BitVec.ofNat 32 n from by
    show BitVec.ofInt 32 (n : Int) = _
    simp]
  rw [BitVec.getLsbD_ofNat]
  simp only [h, decide_true, Bool.true_and]
theorem tb_zero (i : Nat) : tb 0 i = false := by
  unfold tb
  simp
theorem inI_to (z : Int32) : InI z.toInt := ⟨Int32.le_toInt z, by have := Int32.toInt_lt z; omega⟩
theorem andI_in (x y : Int) : InI (andI x y) := inI_to _
theorem orI_in (x y : Int) : InI (orI x y) := inI_to _
theorem xorI_in (x y : Int) : InI (xorI x y) := inI_to _
theorem shlI_in (x y : Int) : InI (shlI x y) := inI_to _
theorem shrI_in (x y : Int) : InI (shrI x y) := inI_to _
theorem wr_in (x : Int) : InI (wr x) := inI_to _
theorem tb_one (i : Nat) : tb 1 i = decide (i = 0) := by
  by_cases h : i < 32
  · have : ∀ i : Fin 32, tb 1 i.val = decide (i.val = 0) := by decide
    exact this ⟨i, h⟩
  · rw [tb_hi _ (by omega)]
    simp; omega
/-- one bit looked at -/
theorem bit_at (x : Int) {i : Nat} (h : i < 32) : andI (shrI x (i : Int)) 1 = if tb x i then 1 else 0 := by
  apply tb_ext (andI_in _ _) (by split <;> exact ⟨by decide, by decide⟩)
  intro j hj
  rw [tb_and, tb_one]
  by_cases hz : j = 0
  · subst hz
    rw [tb_shr _ h (by omega)]
    cases hb : tb x (0 + i) <;> simp at hb <;> simp [hb, tb_zero, tb_one]
  · simp only [hz, decide_false, Bool.and_false]
    split
    · rw [tb_one]; simp [hz]
    · rw [tb_zero]
theorem tb_bit {i : Nat} (h : i < 32) (j : Nat) : tb (shlI 1 (i : Int)) j = decide (j = i) := by
  rw [tb_shl _ h, tb_one]
  by_cases h1 : j = i
  · subst h1; simp [h]
  · by_cases h2 : j < 32 <;> by_cases h3 : i ≤ j <;> simp [h1, h2, h3] <;> omega
theorem tb_m1 (i : Nat) : tb (-1) i = decide (i < 32) := by
  by_cases h : i < 32
  · have : ∀ i : Fin 32, tb (-1) i.val = true := by decide
    rw [this ⟨i, h⟩]; simp [h]
  · rw [tb_hi _ (by omega)]; simp [h]
theorem eq_zero_iff {x : Int} (hx : InI x) : x = 0 ↔ ∀ i, i < 32 → tb x i = false := by
  constructor
  · intro h i _; rw [h, tb_zero]
  · intro h; exact tb_ext hx ⟨by decide, by decide⟩ (fun i hi => by rw [h i hi, tb_zero])
theorem andI_zero (x y : Int) : andI x y = 0 ↔ ∀ i, i < 32 → ¬ (tb x i = true ∧ tb y i = true) := by
  rw [eq_zero_iff (andI_in x y)]
  constructor
  · intro h i hi hc
    have := h i hi
    rw [tb_and, hc.1, hc.2] at this
    exact absurd this (by decide)
  · intro h i hi
    have := h i hi
    rw [tb_and]
    cases h1 : tb x i <;> cases h2 : tb y i <;> simp [h1, h2] at this ⊢
/-- a mask of n bits -/
theorem mask_iff {x : Int} (hx : InI x) {n : Nat} (hn : n < 32) : (0 ≤ x ∧ x < 2 ^ n) ↔ ∀ i, n ≤ i → tb x i = false := by
  constructor
  · rintro ⟨h0, h1⟩ i hi
    by_cases h : i < 32
    · obtain ⟨m, rfl⟩ := Int.eq_ofNat_of_zero_le h0
      rw [tb_nat m i h]
      have hm : m < 2 ^ n := by
        have : ((2 ^ n : Nat) : Int) = (2 : Int) ^ n := by simp
        omega
      exact Nat.testBit_lt_two_pow (Nat.lt_of_lt_of_le hm (Nat.pow_le_pow_right (by decide) hi))
    · exact tb_hi _ (by omega)
  · intro h
    have hm : (Int32.ofInt x).toBitVec.msb = false := by
      rw [BitVec.msb_eq_getLsbD_last]; exact h 31 (by omega)
    have hx2 : x = ((Int32.ofInt x).toBitVec.toNat : Int) := by
      have h3 : x = wr x := (wr_id hx).symm
      rw [h3]
      unfold wr
      rw [Int32.ofInt_toInt]
      show (Int32.ofInt x).toBitVec.toInt = _
      exact BitVec.toInt_eq_toNat_of_msb hm
    have h2 : (Int32.ofInt x).toBitVec.toNat < 2 ^ n := by
      apply Nat.lt_pow_two_of_testBit
      intro i hi
      exact h i hi
    have : ((2 ^ n : Nat) : Int) = (2 : Int) ^ n := by simp
    omega
