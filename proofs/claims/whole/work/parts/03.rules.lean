/-! THE STATIC WORLD: the law's objects, 235 cells in the order of their making, at base + k; a state is what their slots hold, as integers -/
abbrev St : Type := Nat → Nat → Int
abbrev Wd : Type := va_G × Nat × (Nat → ClassId)
abbrev InI (x : Int) : Prop := -2147483648 ≤ x ∧ x ≤ 2147483647
abbrev InL (x : Int) : Prop := -9223372036854775808 ≤ x ∧ x ≤ 9223372036854775807
abbrev InZ (x : Int) : Prop := x = 0 ∨ x = 1
abbrev InB (x : Int) : Prop := -128 ≤ x ∧ x ≤ 127
def iv (x : Int) : Value := .int (Int32.ofInt x)
def jv (x : Int) : Value := .long (Int64.ofInt x)
def rv (w : Wd) (k : Nat) : Value := .ref (w.2.1 + k)
def shp : List (Nat × Nat) := [(11, 11), (10, 6), (20, 24), (20, 24), (20, 24), (25, 10), (20, 10), (20, 10), (20, 10), (20, 10), (20, 10), (20, 10), (20, 10), (20, 10), (20, 10), (20, 10), (9, 7), (20, 502), (20, 502), (20, 502), (23, 502), (20, 2000), (5, 9), (20, 512), (20, 512), (20, 512), (22, 512), (20, 512), (23, 8), (20, 8), (1, 9), (20, 150), (20, 150), (20, 150), (20, 150), (20, 150), (22, 150), (20, 96), (24, 8), (0, 19), (3, 3), (20, 64), (20, 64), (20, 96), (20, 8), (20, 8), (0, 19), (3, 3), (20, 64), (20, 64), (20, 96), (20, 8), (20, 8), (0, 19), (3, 3), (20, 64), (20, 64), (20, 96), (20, 8), (20, 8), (0, 19), (3, 3), (20, 64), (20, 64), (20, 96), (20, 8), (20, 8), (0, 19), (3, 3), (20, 64), (20, 64), (20, 96), (20, 8), (20, 8), (0, 19), (3, 3), (20, 64), (20, 64), (20, 96), (20, 8), (20, 8), (0, 19), (3, 3), (20, 64), (20, 64), (20, 96), (20, 8), (20, 8), (0, 19), (3, 3), (20, 64), (20, 64), (20, 96), (20, 8), (20, 8), (6, 8), (25, 8), (20, 96), (20, 96), (20, 96), (20, 96), (20, 96), (20, 96), (20, 96), (20, 96), (25, 8), (20, 96), (20, 96), (20, 96), (20, 96), (20, 96), (20, 96), (20, 96), (20, 96), (20, 96), (20, 96), (20, 96), (20, 96), (4, 15), (5, 9), (20, 512), (20, 512), (20, 512), (22, 512), (20, 512), (23, 8), (20, 8), (20, 6), (20, 6), (8, 14), (20, 10), (20, 10), (25, 8), (20, 8), (20, 8), (20, 8), (20, 8), (20, 8), (20, 8), (20, 8), (20, 8), (20, 768), (25, 10), (20, 8), (20, 8), (20, 8), (20, 8), (20, 8), (20, 8), (20, 8), (20, 8), (20, 8), (20, 8), (7, 4), (20, 8), (25, 8), (20, 96), (20, 96), (20, 96), (20, 96), (20, 96), (20, 96), (20, 96), (20, 96), (2, 6), (20, 8), (20, 8), (20, 3), (20, 8), (20, 3), (12, 89), (21, 2000), (21, 2000), (20, 503), (20, 503), (20, 503), (23, 503), (23, 26), (20, 2), (23, 16), (20, 16), (20, 2000), (20, 2000), (20, 2000), (20, 2000), (20, 8), (20, 8), (20, 24), (20, 24), (20, 24), (20, 8), (20, 8), (20, 8), (20, 100), (20, 100), (20, 150), (20, 150), (20, 150), (20, 150), (20, 150), (22, 960), (20, 768), (20, 64), (20, 64), (20, 8), (20, 10), (20, 80), (20, 64), (20, 8), (20, 8), (20, 768), (20, 8), (20, 8), (20, 8), (20, 8), (20, 8), (20, 8), (20, 8), (20, 8), (20, 512), (20, 512), (22, 7680), (22, 960), (22, 960), (22, 960), (22, 768), (22, 7680), (22, 10), (20, 8), (20, 3), (20, 8), (20, 8), (20, 8), (20, 3), (23, 1)]
def rfs : List (List Nat) := [[1, 16, 22, 118, 30, 38, 0, 129, 95, 153, 164], [2, 3, 4, 5], [], [], [], [6, 7, 8, 9, 10, 11, 12, 13, 14, 15], [], [], [], [], [], [], [], [], [], [], [0, 17, 18, 19, 20, 21], [], [], [], [], [], [23, 24, 25, 26, 27, 28, 29], [], [], [], [], [], [], [], [31, 32, 33, 34, 35, 0, 0, 36, 37], [], [], [], [], [], [], [], [39, 46, 53, 60, 67, 74, 81, 88], [0, 0, 0, 40, 0, 0, 0, 0, 0, 0, 0, 0, 0, 43, 44, 45], [41, 42], [], [], [], [], [], [0, 0, 0, 47, 0, 0, 0, 0, 0, 0, 0, 0, 0, 50, 51, 52], [48, 49], [], [], [], [], [], [0, 0, 0, 54, 0, 0, 0, 0, 0, 0, 0, 0, 0, 57, 58, 59], [55, 56], [], [], [], [], [], [0, 0, 0, 61, 0, 0, 0, 0, 0, 0, 0, 0, 0, 64, 65, 66], [62, 63], [], [], [], [], [], [0, 0, 0, 68, 0, 0, 0, 0, 0, 0, 0, 0, 0, 71, 72, 73], [69, 70], [], [], [], [], [], [0, 0, 0, 75, 0, 0, 0, 0, 0, 0, 0, 0, 0, 78, 79, 80], [76, 77], [], [], [], [], [], [0, 0, 0, 82, 0, 0, 0, 0, 0, 0, 0, 0, 0, 85, 86, 87], [83, 84], [], [], [], [], [], [0, 0, 0, 89, 0, 0, 0, 0, 0, 0, 0, 0, 0, 92, 93, 94], [90, 91], [], [], [], [], [], [96, 105, 1, 30, 114, 115, 116, 117], [97, 98, 99, 100, 101, 102, 103, 104], [], [], [], [], [], [], [], [], [106, 107, 108, 109, 110, 111, 112, 113], [], [], [], [], [], [], [], [], [], [], [], [], [119, 0, 0, 16, 127, 128], [120, 121, 122, 123, 124, 125, 126], [], [], [], [], [], [], [], [], [], [0, 0, 130, 131, 132, 141, 0, 1, 22, 30, 38, 142], [], [], [133, 134, 135, 136, 137, 138, 139, 140], [], [], [], [], [], [], [], [], [], [143, 144, 145, 146, 147, 148, 149, 150, 151, 152], [], [], [], [], [], [], [], [], [], [], [154, 1, 95, 155], [], [156, 157, 158, 159, 160, 161, 162, 163], [], [], [], [], [], [], [], [], [165, 166, 167, 0, 168, 169], [], [], [], [], [], [0, 171, 0, 172, 0, 173, 174, 175, 176, 177, 0, 0, 0, 0, 0, 0, 0, 0, 0, 178, 179, 180, 0, 181, 182, 183, 184, 0, 185, 186, 0, 0, 187, 188, 189, 0, 190, 191, 192, 193, 194, 0, 195, 196, 197, 198, 199, 200, 0, 201, 202, 203, 204, 205, 206, 207, 208, 209, 0, 210, 0, 211, 212, 213, 214, 215, 216, 217, 218, 219, 220, 0, 0, 0, 0, 221, 222, 223, 224, 225, 226, 227, 0, 228, 229, 230, 231, 232, 233], [], [], [], [], [], [], [], [], [], [], [], [], [], [], [], [], [], [], [], [], [], [], [], [], [], [], [], [], [], [], [], [], [], [], [], [], [], [], [], [], [], [], [], [], [], [], [], [], [], [], [], [], [], [], [], [], [], [], [], [], [], [], [], []]
def NC : Nat := 235
def tg (k : Nat) : Nat := (shp.getD k (99, 0)).1
def ln (k : Nat) : Nat := (shp.getD k (99, 0)).2
def rf (k j : Nat) : Nat := (rfs.getD k []).getD j 0
def kof : FieldType → Nat
  | .int => 0
  | .boolean => 1
  | .byte => 2
  | .long => 3
  | _ => 4
def inK : Nat → Int → Prop
  | 0 => InI
  | 1 => InZ
  | 2 => InB
  | 3 => InL
  | _ => fun _ => True
/-- the kind of a slot -/
def kd (k j : Nat) : Nat := match tg k with
  | 20 => 0
  | 21 => 2
  | 22 => 1
  | 23 => 3
  | 24 => 4
  | 25 => 4
  | ci => kof (fty ci j)
def ok (σ : St) : Prop := ∀ k j, inK (kd k j) (σ k j)
def fval (w : Wd) (σ : St) (k ci j : Nat) : Value := match kof (fty ci j) with
  | 3 => jv (σ k j)
  | 4 => rv w (rf k j)
  | _ => iv (σ k j)
def ent (w : Wd) (σ : St) (k : Nat) : va_E := match tg k with
  | 20 => .inl (w.2.2 0, ln k, .inl (fun j => Int32.ofInt (σ k j)))
  | 21 => .inl (w.2.2 1, ln k, .inl (fun j => Int32.ofInt (σ k j)))
  | 22 => .inl (w.2.2 2, ln k, .inl (fun j => Int32.ofInt (σ k j)))
  | 23 => .inl (w.2.2 3, ln k, .inr (.inl (fun j => Int64.ofInt (σ k j))))
  | 24 => .inl (w.2.2 4, ln k, .inr (.inr (.inr (.inr (fun j => some (w.2.1 + rf k j))))))
  | 25 => .inl (w.2.2 5, ln k, .inr (.inr (.inr (.inr (fun j => some (w.2.1 + rf k j))))))
  | ci => .inr (ci, (List.range (ln k)).map (fval w σ k ci))
def cw (w : Wd) (σ : St) : va_W := (List.range NC).map (fun k => (w.2.1 + k, ent w σ k))
def tys (w : Wd) : List (ClassId × FieldType) := [(w.2.2 0, .int), (w.2.2 1, .byte), (w.2.2 2, .boolean), (w.2.2 3, .long), (w.2.2 4, .object "HushNet$Agent"), (w.2.2 5, .array .int)]
/-- one slot written -/
def up (σ : St) (k i : Nat) (x : Int) : St := fun k' i' => if k' = k ∧ i' = i then x else σ k' i'
theorem cw_get {w : Wd} {σ : St} {k : Nat} (h : k < NC) : (cw w σ)[k]? = some (w.2.1 + k, ent w σ k) := by
  simp [cw, h]
theorem cw_set {w : Wd} {σ σ' : St} {k : Nat} (h : k < NC) (hk : ∀ k', k' ≠ k → σ' k' = σ k') : (cw w σ).set k (w.2.1 + k, ent w σ' k) = cw w σ' := by
  apply List.ext_getElem?
  intro i
  by_cases hi : i = k
  · subst hi
    rw [List.getElem?_set_self (by simp [cw]; exact h), cw_get h]
  · rw [List.getElem?_set_ne (Ne.symm hi)]
    by_cases hn : i < NC
    · rw [cw_get hn, cw_get hn]
      have : ent w σ i = ent w σ' i := by
        unfold ent fval
        rw [hk i hi]
      rw [this]
    · rw [List.getElem?_eq_none (by simp [cw]; omega), List.getElem?_eq_none (by simp [cw]; omega)]
theorem up_ne {σ : St} {k i : Nat} {x : Int} (k' : Nat) (h : k' ≠ k) : up σ k i x k' = σ k' := by
  funext j
  simp [up, h]
theorem up_at {σ : St} {k i : Nat} {x : Int} (j : Nat) : up σ k i x k j = if j = i then x else σ k j := by
  simp [up]
theorem ok_up {σ : St} {k i : Nat} {x : Int} (h : ok σ) (hx : inK (kd k i) x) : ok (up σ k i x) := by
  intro k' j
  unfold up
  split
  next q => rw [q.1, q.2]; exact hx
  next => exact h k' j
theorem upd32 {f : Nat → Int} {i : Nat} {x : Int} : upd (fun j => Int32.ofInt (f j)) i (Int32.ofInt x) = fun j => Int32.ofInt (if j = i then x else f j) := by
  funext j
  unfold upd
  split <;> rfl
theorem upd64 {f : Nat → Int} {i : Nat} {x : Int} : vp_updL (fun j => Int64.ofInt (f j)) i (Int64.ofInt x) = fun j => Int64.ofInt (if j = i then x else f j) := by
  funext j
  unfold vp_updL
  split <;> rfl
theorem ent20 {w : Wd} {σ : St} {k : Nat} (h : tg k = 20) : ent w σ k = .inl (w.2.2 0, ln k, .inl (fun j => Int32.ofInt (σ k j))) := by simp [ent, h]
theorem ent21 {w : Wd} {σ : St} {k : Nat} (h : tg k = 21) : ent w σ k = .inl (w.2.2 1, ln k, .inl (fun j => Int32.ofInt (σ k j))) := by simp [ent, h]
theorem ent22 {w : Wd} {σ : St} {k : Nat} (h : tg k = 22) : ent w σ k = .inl (w.2.2 2, ln k, .inl (fun j => Int32.ofInt (σ k j))) := by simp [ent, h]
theorem ent23 {w : Wd} {σ : St} {k : Nat} (h : tg k = 23) : ent w σ k = .inl (w.2.2 3, ln k, .inr (.inl (fun j => Int64.ofInt (σ k j)))) := by simp [ent, h]
theorem ent24 {w : Wd} {σ : St} {k : Nat} (h : tg k = 24) : ent w σ k = .inl (w.2.2 4, ln k, .inr (.inr (.inr (.inr (fun j => some (w.2.1 + rf k j)))))) := by simp [ent, h]
theorem ent25 {w : Wd} {σ : St} {k : Nat} (h : tg k = 25) : ent w σ k = .inl (w.2.2 5, ln k, .inr (.inr (.inr (.inr (fun j => some (w.2.1 + rf k j)))))) := by simp [ent, h]
theorem entO {w : Wd} {σ : St} {k ci : Nat} (h : tg k = ci) (hc : ci < 13) : ent w σ k = .inr (ci, (List.range (ln k)).map (fval w σ k ci)) := by
  unfold ent
  rw [h]
  match ci, hc with
  | 0, _ => rfl
  | 1, _ => rfl
  | 2, _ => rfl
  | 3, _ => rfl
  | 4, _ => rfl
  | 5, _ => rfl
  | 6, _ => rfl
  | 7, _ => rfl
  | 8, _ => rfl
  | 9, _ => rfl
  | 10, _ => rfl
  | 11, _ => rfl
  | 12, _ => rfl
theorem kdO {k ci j : Nat} (h : tg k = ci) (hc : ci < 13) : kd k j = kof (fty ci j) := by
  unfold kd
  rw [h]
  match ci, hc with
  | 0, _ => rfl
  | 1, _ => rfl
  | 2, _ => rfl
  | 3, _ => rfl
  | 4, _ => rfl
  | 5, _ => rfl
  | 6, _ => rfl
  | 7, _ => rfl
  | 8, _ => rfl
  | 9, _ => rfl
  | 10, _ => rfl
  | 11, _ => rfl
  | 12, _ => rfl
theorem tg_lt {k n : Nat} (h : tg k = n) (hn : n < 99) : k < NC := by
  rcases Nat.lt_or_ge k NC with q | q
  · exact q
  · exfalso
    have : tg k = 99 := by
      unfold tg
      rw [List.getD_eq_getElem?_getD, List.getElem?_eq_none (show shp.length ≤ k from q)]
      rfl
    omega
/-- what the tables say of a class of the world -/
theorem clOK : ∀ ci, ci < 13 → vwCl[ci]? = some (RXf ci, TXf ci, NXf ci) ∧ (∀ t ∈ u_ws (RXf ci) (TXf ci) (NXf ci), t ∈ TB) ∧ (∀ k, k < NXf ci → parseFieldDescriptor ((TXf ci) k).2.2.1 = some (fty ci k)) ∧ (∀ a, a < NXf ci → ∀ b, b < NXf ci → a ≠ b → ((TXf ci) a).2.1 ≠ ((TXf ci) b).2.1)
  | 0, _ => ⟨rfl, lay_0, tyX0_ok, nmX0⟩
  | 1, _ => ⟨rfl, lay_1, tyX1_ok, nmX1⟩
  | 2, _ => ⟨rfl, lay_2, tyX2_ok, nmX2⟩
  | 3, _ => ⟨rfl, lay_3, tyX3_ok, nmX3⟩
  | 4, _ => ⟨rfl, lay_4, tyX4_ok, nmX4⟩
  | 5, _ => ⟨rfl, lay_5, tyX5_ok, nmX5⟩
  | 6, _ => ⟨rfl, lay_6, tyX6_ok, nmX6⟩
  | 7, _ => ⟨rfl, lay_7, tyX7_ok, nmX7⟩
  | 8, _ => ⟨rfl, lay_8, tyX8_ok, nmX8⟩
  | 9, _ => ⟨rfl, lay_9, tyX9_ok, nmX9⟩
  | 10, _ => ⟨rfl, lay_10, tyX10_ok, nmX10⟩
  | 11, _ => ⟨rfl, lay_11, tyX11_ok, nmX11⟩
  | 12, _ => ⟨rfl, lay_12, tyX12_ok, nmX12⟩
  | n + 13, h => absurd h (by omega)
theorem lnO : ∀ k, k < NC → tg k < 13 → ln k = NXf (tg k) := by decide +kernel
/-! NUMBERS: the machine's ints and longs as integers -/
theorem ti {x : Int} (h : InI x) : (Int32.ofInt x).toInt = x := Int32.toInt_ofInt_of_le h.1 (by have := h.2; omega)
theorem tl {x : Int} (h : InL x) : (Int64.ofInt x).toInt = x := Int64.toInt_ofInt_of_le h.1 (by have := h.2; omega)
theorem iI (x : Int32) : InI x.toInt := ⟨x.le_toInt, by have := x.toInt_lt; omega⟩
theorem iL (x : Int64) : InL x.toInt := ⟨x.le_toInt, by have := x.toInt_lt; omega⟩
theorem zI {x : Int} (h : InZ x) : InI x := by rcases h with h | h <;> subst h <;> decide
theorem bI {x : Int} (h : InB x) : InI x := ⟨by have := h.1; omega, by have := h.2; omega⟩
def wr (x : Int) : Int := (Int32.ofInt x).toInt
def wl (x : Int) : Int := (Int64.ofInt x).toInt
def andI (x y : Int) : Int := (Int32.ofInt x &&& Int32.ofInt y).toInt
def orI (x y : Int) : Int := (Int32.ofInt x ||| Int32.ofInt y).toInt
def xorI (x y : Int) : Int := (Int32.ofInt x ^^^ Int32.ofInt y).toInt
def shlI (x y : Int) : Int := (Int32.ofInt x <<< (Int32.ofInt y &&& 31)).toInt
def shrI (x y : Int) : Int := (Int32.ofInt x >>> (Int32.ofInt y &&& 31)).toInt
def ushrI (x y : Int) : Int := ((Int32.ofInt x).toUInt32 >>> ((Int32.ofInt y).toUInt32 &&& Int32.toUInt32 31)).toInt32.toInt
def divI (x y : Int) : Option Int := if y = 0 then none else some (Int32.ofInt x / Int32.ofInt y).toInt
def remI (x y : Int) : Option Int := if y = 0 then none else some (Int32.ofInt x - Int32.ofInt x / Int32.ofInt y * Int32.ofInt y).toInt
def shlL (x y : Int) : Int := (Int64.ofInt x <<< ((Int32.ofInt y).toInt64 &&& 63)).toInt
def orL (x y : Int) : Int := (Int64.ofInt x ||| Int64.ofInt y).toInt
def i2bI (x : Int) : Int := (Int32.ofInt x).toInt8.toInt32.toInt
def lcI (x y : Int) : Int := if y < x then 1 else if x = y then 0 else -1
theorem wr_id {x : Int} (h : InI x) : wr x = x := ti h
theorem wl_id {x : Int} (h : InL x) : wl x = x := tl h
theorem iwr (x : Int) : InI (wr x) := iI _
theorem iwl (x : Int) : InL (wl x) := iL _
theorem iand (x y : Int) : InI (andI x y) := iI _
theorem ior (x y : Int) : InI (orI x y) := iI _
theorem ixor (x y : Int) : InI (xorI x y) := iI _
theorem ishl (x y : Int) : InI (shlI x y) := iI _
theorem ishr (x y : Int) : InI (shrI x y) := iI _
theorem iushr (x y : Int) : InI (ushrI x y) := iI _
theorem ishlL (x y : Int) : InL (shlL x y) := iL _
theorem iorL (x y : Int) : InL (orL x y) := iL _
theorem ii2b (x : Int) : InI (i2bI x) := iI _
theorem ilcI (x y : Int) : InI (lcI x y) := by unfold lcI; split; · decide
                                               split <;> decide
theorem i2l {x : Int} (h : InI x) : InL x := ⟨by have := h.1; omega, by have := h.2; omega⟩
theorem ii2bB (x : Int) : InB (i2bI x) := by
  have h : i2bI x = (Int32.ofInt x).toInt8.toInt := by simp [i2bI]
  rw [h]
  exact ⟨(Int32.ofInt x).toInt8.le_toInt, by have := (Int32.ofInt x).toInt8.toInt_lt; omega⟩
theorem oi (x : Int32) : Int32.ofInt x.toInt = x := Int32.ofInt_toInt x
theorem ol (x : Int64) : Int64.ofInt x.toInt = x := Int64.ofInt_toInt x
theorem iv_lt {x y : Int} (hx : InI x) (hy : InI y) : Int32.ofInt x < Int32.ofInt y ↔ x < y := by rw [Int32.lt_iff_toInt_lt, ti hx, ti hy]
theorem iv_le {x y : Int} (hx : InI x) (hy : InI y) : Int32.ofInt x ≤ Int32.ofInt y ↔ x ≤ y := by rw [Int32.le_iff_toInt_le, ti hx, ti hy]
theorem iv_eq {x y : Int} (hx : InI x) (hy : InI y) : Int32.ofInt x = Int32.ofInt y ↔ x = y := by rw [← Int32.toInt_inj, ti hx, ti hy]
theorem i0 : (0 : Int32) = Int32.ofInt 0 := rfl
theorem cI0 : InI 0 := by decide
theorem iv_ix {i n : Int} {N : Nat} (hi : InI i) (h : 0 ≤ i ∧ i < n) (hn : (N : Int) = n) : vp_in (Int32.ofInt i) N ∧ (Int32.ofInt i).toNatClampNeg = i.toNat := by
  have e : (Int32.ofInt i).toNatClampNeg = i.toNat := by rw [← Int32.toNat_toInt, ti hi]
  refine ⟨?_, e⟩
  unfold vp_in
  rw [e, i0, iv_lt hi cI0]
  omega
/-! READS AND WRITES, that fail outside -/
def rd (σ : St) (k : Nat) (n i : Int) : Option Int := if 0 ≤ i ∧ i < n then some (σ k i.toNat) else none
def wt (σ : St) (k : Nat) (n i x : Int) : Option St := if 0 ≤ i ∧ i < n then some (up σ k i.toNat x) else none
def pt (σ : St) (k j : Nat) (x : Int) : Option St := some (up σ k j x)
def rr (k : Nat) (n i : Int) : Option Nat := if 0 ≤ i ∧ i < n then some (rf k i.toNat) else none
def lpN {α β : Type} (f : α → Option (α ⊕ β)) : Nat → α → Option β
  | 0, _ => none
  | n + 1, a => match f a with
    | none => none
    | some (.inl a') => lpN f n a'
    | some (.inr b) => some b
def FU : Nat := 100000
def lp {α β : Type} (f : α → Option (α ⊕ β)) (a : α) : Option β := lpN f FU a
theorem lp_step {α β : Type} {f : α → Option (α ⊕ β)} {n : Nat} {a : α} {b : β} (h : lpN f (n + 1) a = some b) : ∃ o, f a = some o ∧ ((∃ a', o = .inl a' ∧ lpN f n a' = some b) ∨ o = .inr b) := by
  unfold lpN at h
  split at h
  · cases h
  · next a' q => exact ⟨_, q, Or.inl ⟨a', rfl, h⟩⟩
  · next b' q => cases h; exact ⟨_, q, Or.inr rfl⟩
theorem lpL {α β : Type} {f : α → Option (α ⊕ β)} {n : Nat} {a : α} {b : β} (h : (∃ a', (Sum.inl a : α ⊕ β) = .inl a' ∧ lpN f n a' = some b) ∨ (Sum.inl a : α ⊕ β) = .inr b) : lpN f n a = some b := by
  rcases h with ⟨a', h1, h2⟩ | h
  · cases h1; exact h2
  · cases h
theorem lpR {α β : Type} {f : α → Option (α ⊕ β)} {n : Nat} {b0 b : β} (h : (∃ a', (Sum.inr b0 : α ⊕ β) = .inl a' ∧ lpN f n a' = some b) ∨ (Sum.inr b0 : α ⊕ β) = .inr b) : b = b0 := by
  rcases h with ⟨a', h1, h2⟩ | h
  · cases h1
  · cases h; rfl
theorem ifT {α : Type} {c : Prop} [Decidable c] {a b r : α} (hc : c) (h : (if c then a else b) = r) : a = r := by rw [if_pos hc] at h; exact h
theorem ifF {α : Type} {c : Prop} [Decidable c] {a b r : α} (hc : ¬ c) (h : (if c then a else b) = r) : b = r := by rw [if_neg hc] at h; exact h
theorem bnd {α β : Type} {o : Option α} {f : α → Option β} {r : β} (h : o.bind f = some r) : ∃ x, o = some x ∧ f x = some r := Option.bind_eq_some_iff.mp h
theorem rd_spec {σ : St} {k : Nat} {n i x : Int} (h : rd σ k n i = some x) : (0 ≤ i ∧ i < n) ∧ x = σ k i.toNat := by
  unfold rd at h
  split at h
  · next q => cases h; exact ⟨q, rfl⟩
  · cases h
theorem wt_spec {σ σ' : St} {k : Nat} {n i x : Int} (h : wt σ k n i x = some σ') : (0 ≤ i ∧ i < n) ∧ σ' = up σ k i.toNat x := by
  unfold wt at h
  split at h
  · next q => cases h; exact ⟨q, rfl⟩
  · cases h
theorem rr_spec {k : Nat} {n i : Int} {r : Nat} (h : rr k n i = some r) : (0 ≤ i ∧ i < n) ∧ r = rf k i.toNat := by
  unfold rr at h
  split at h
  · next q => cases h; exact ⟨q, rfl⟩
  · cases h
/-! LOCALS: a list, by place; what isn't known is none -/
def LR (ls : Array Slot) (nL : Nat) (L : List (Option Value)) : Prop := ls.size = nL ∧ lv_wf ls ∧ ∀ (i : Nat) (v : Value), L[i]? = some (some v) → ls[i]? = some (Slot.val v)
def lvs (L : List (Option Value)) : List (Nat × Value) := (List.range L.length).filterMap (fun i => match L[i]? with | some (some v) => some (i, v) | _ => none)
theorem mem_lvs {L : List (Option Value)} {i : Nat} {v : Value} : (i, v) ∈ lvs L ↔ L[i]? = some (some v) := by
  unfold lvs
  rw [List.mem_filterMap]
  constructor
  · rintro ⟨j, -, h⟩
    split at h
    · next u q => cases h; exact q
    · cases h
  · intro h
    exact ⟨i, List.mem_range.mpr (List.getElem?_eq_some_iff.mp h).1, by rw [h]⟩
theorem LR.has {ls : Array Slot} {nL : Nat} {L : List (Option Value)} (h : LR ls nL L) : lv_has ls nL (lvs L) := ⟨h.1, h.2.1, fun q hq => h.2.2 q.1 q.2 (mem_lvs.mp hq)⟩
theorem LR.of {ls : Array Slot} {nL : Nat} {L : List (Option Value)} {lv : List (Nat × Value)} (h : lv_has ls nL lv) (hL : ∀ i v, L[i]? = some (some v) → (i, v) ∈ lv) : LR ls nL L := ⟨h.1, h.2.1, fun i v q => h.2.2 (i, v) (hL i v q)⟩
/-- no long's first half stands just ahead -/
def okS (L : List (Option Value)) : Nat → Bool
  | 0 => true
  | j + 1 => match L[j]? with
    | some (some (.long _)) => false
    | some (some (.double _)) => false
    | _ => true
theorem okS_cat {L : List (Option Value)} {i j : Nat} {v : Value} (h : okS L i = true) (hj : j + 1 = i) (hv : L[j]? = some (some v)) : ¬ v.category = 2 := by
  subst hj
  cases v <;> simp [okS, hv, Value.category] at h ⊢
theorem LR.st1 {ls : Array Slot} {nL i : Nat} {L : List (Option Value)} {v : Value} (hs : okS L i = true) (h : lv_has ls nL ((i, v) :: (lvs L).filter (fun q => !(q.1 == i) && !(q.1 + 1 == i && q.2.category == 2)))) : LR ls nL (L.set i (some v)) := by
  refine LR.of h fun j u q => ?_
  by_cases hj : j = i
  · subst hj
    have hl : j < (L.set j (some v)).length := (List.getElem?_eq_some_iff.mp q).1
    rw [List.getElem?_set_self (by simpa using hl)] at q
    cases q
    exact List.mem_cons_self
  · rw [List.getElem?_set_ne (Ne.symm hj)] at q
    refine List.mem_cons_of_mem _ (List.mem_filter.mpr ⟨mem_lvs.mpr q, ?_⟩)
    simp only [Bool.and_eq_true, Bool.not_eq_true', beq_eq_false_iff_ne, ne_eq, Bool.and_eq_false_iff]
    refine ⟨hj, ?_⟩
    by_cases h1 : j + 1 = i
    · exact Or.inr (okS_cat hs h1 q)
    · exact Or.inl h1
theorem LR.st2 {ls : Array Slot} {nL i : Nat} {L : List (Option Value)} {v : Value} (hs : okS L i = true) (h : lv_has ls nL ((i, v) :: (lvs L).filter (fun q => !(q.1 == i) && (!(q.1 == i + 1) && !(q.1 + 1 == i && q.2.category == 2))))) : LR ls nL ((L.set i (some v)).set (i + 1) none) := by
  refine LR.of h fun j u q => ?_
  by_cases h0 : j = i + 1
  · subst h0
    have hl : i + 1 < ((L.set i (some v)).set (i + 1) none).length := (List.getElem?_eq_some_iff.mp q).1
    rw [List.getElem?_set_self (by simpa using hl)] at q
    cases q
  · rw [List.getElem?_set_ne (Ne.symm h0)] at q
    by_cases hj : j = i
    · subst hj
      have hl : j < (L.set j (some v)).length := (List.getElem?_eq_some_iff.mp q).1
      rw [List.getElem?_set_self (by simpa using hl)] at q
      cases q
      exact List.mem_cons_self
    · rw [List.getElem?_set_ne (Ne.symm hj)] at q
      refine List.mem_cons_of_mem _ (List.mem_filter.mpr ⟨mem_lvs.mpr q, ?_⟩)
      simp only [Bool.and_eq_true, Bool.not_eq_true', beq_eq_false_iff_ne, ne_eq, Bool.and_eq_false_iff]
      refine ⟨hj, h0, ?_⟩
      by_cases h1 : j + 1 = i
      · exact Or.inr (okS_cat hs h1 q)
      · exact Or.inl h1
def mskL : List Bool → List (Option Value) → List (Option Value)
  | b :: bs, o :: os => (if b then o else none) :: mskL bs os
  | _, _ => []
theorem mskL_get : ∀ (bs : List Bool) (L : List (Option Value)) (i : Nat) (v : Value), (mskL bs L)[i]? = some (some v) → L[i]? = some (some v)
  | [], L, i, v, h => by simp [mskL] at h
  | b :: bs, [], i, v, h => by simp [mskL] at h
  | b :: bs, o :: os, 0, v, h => by
    cases b <;> simp [mskL] at h ⊢
    exact h
  | b :: bs, o :: os, i + 1, v, h => by
    have := mskL_get bs os i v (by simpa [mskL] using h)
    simpa using this
/-! what the walks need of the one String constant -/
def WT : String := "abort burn code do else end for go has if knows late leave loop mark meet not paper take tell till wait watched wipe with write"
def WB : List Int32 := [97, 98, 111, 114, 116, 32, 98, 117, 114, 110, 32, 99, 111, 100, 101, 32, 100, 111, 32, 101, 108, 115, 101, 32, 101, 110, 100, 32, 102, 111, 114, 32, 103, 111, 32, 104, 97, 115, 32, 105, 102, 32, 107, 110, 111, 119, 115, 32, 108, 97, 116, 101, 32, 108, 101, 97, 118, 101, 32, 108, 111, 111, 112, 32, 109, 97, 114, 107, 32, 109, 101, 101, 116, 32, 110, 111, 116, 32, 112, 97, 112, 101, 114, 32, 116, 97, 107, 101, 32, 116, 101, 108, 108, 32, 116, 105, 108, 108, 32, 119, 97, 105, 116, 32, 119, 97, 116, 99, 104, 101, 100, 32, 119, 105, 112, 101, 32, 119, 105, 116, 104, 32, 119, 114, 105, 116, 101]
def SX (w : Wd) (A : Nat → Prop) (U : State) (H : Heap) : Prop := vk_S 1 [127] [WB] (fun _ => w.2.2 100) (fun _ => w.2.2 101) A U H ∧ vk_R RX9 68 WT (w.2.2 100) U ∧ va_Z "java/lang/String" "COMPACT_STRINGS" "Z" (.int 1) A U H ∧ va_Zq "jdk/internal/util/Preconditions" "SIOOBE_FORMATTER" "Ljava/util/function/BiFunction;" A U H ∧ va_Nw (.methodLinkNest RX6 75 yX11_isTick RX11) U
theorem SX.step {w : Wd} {A B : Nat → Prop} {s U : State} {H : Heap} {locs : List Loc} (h : SX w A s s.heap) (hS : va_S A s.heap H locs) (hB : ∀ q, B q → A q) (hW : s.WarmedH U.vm) : SX w B U H :=
  ⟨((h.1.kept hS.2.1).narrow hB).moved hW.alike, vk_R.warm hW h.2.1, ((h.2.2.1.kept hS.2.1).narrow hB).moved hW.alike, ((h.2.2.2.1.kept hS.2.1).narrow hB).moved hW.alike, va_Nw.warmM hW h.2.2.2.2⟩
/-! THE JUDGEMENT in the static world -/
/-- the cells that a method of the static world may write -/
def Aw (w : Wd) (sz : Nat) : Nat → Prop := fun q => (∃ k, k < NC ∧ q = w.2.1 + k) ∨ sz ≤ q
def Cx (w : Wd) (p : Program) (s : State) (m : MethodId) (args : Array Value) (c : Code) (A : Nat → Prop) (cc : ByteArray) (own : String) (nL : Nat) : Prop :=
  p.tables.exec = Jvm.exec ∧ c.code = cc ∧ c.maxLocals = nL ∧ s.vm.findClass own = some m.cls ∧ (∀ t ∈ TB, t.before args s = true) ∧ va_K w.1 vwCl (tys w) s ∧ (∀ q, Aw w s.heap.size q → A q) ∧ SX w A s s.heap
def G (w : Wd) (p : Program) (l : Launch) (e : Env) (R : Room) (s : State) (m : MethodId) (args : Array Value) (below : List Frame) (meth : Method) (c : Code) (A : Nat → Prop) (cells slots : Nat) (Q : State → Prop) (nL pc : Nat) (L : List (Option Value)) (st : List Value) (σ : St) : Prop :=
  ok σ → ∀ (H : Heap) (locs : List Loc) (ls : Array Slot), va_P w.1 vwCl (cw w σ) H → va_D A (cw w σ) → va_S A s.heap H locs → LR ls nL L → W p l e R s m args below meth c H locs cells slots Q (F0 m pc ls st)
section GR
variable {w : Wd} {p : Program} {l : Launch} {e : Env} {R : Room} {s : State} {m : MethodId} {args : Array Value} {below : List Frame} {meth : Method} {c : Code} {A : Nat → Prop} {cells slots : Nat} {Q : State → Prop} {cc : ByteArray} {own : String} {nL pc : Nat} {L : List (Option Value)} {st : List Value} {σ : St}
theorem g_mask (bs : List Bool) (k : G w p l e R s m args below meth c A cells slots Q nL pc (mskL bs L) st σ) : G w p l e R s m args below meth c A cells slots Q nL pc L st σ := fun ho H locs ls hP hD hS hl => k ho H locs ls hP hD hS ⟨hl.1, hl.2.1, fun i v q => hl.2.2 i v (mskL_get bs L i v q)⟩

theorem g_iconst {n : Int} (C : Cx w p s m args c A cc own nL) (hd : decode cc pc = .ok (.iconst n, 1))  (k : G w p l e R s m args below meth c A cells slots Q nL (pc + 1) L (iv n :: st) σ) : G w p l e R s m args below meth c A cells slots Q nL pc L st σ := by
  intro ho H locs ls hP hD hS hl
  exact lv_iconst C.1 C.2.1 hd rfl (k ho H locs ls hP hD hS hl)
theorem g_bipush {n : Int} (C : Cx w p s m args c A cc own nL) (hd : decode cc pc = .ok (.bipush n, 2)) (hn : (Int8.ofInt n).toInt32 = Int32.ofInt n) (k : G w p l e R s m args below meth c A cells slots Q nL (pc + 2) L (iv n :: st) σ) : G w p l e R s m args below meth c A cells slots Q nL pc L st σ := by
  intro ho H locs ls hP hD hS hl
  exact lv_bipush C.1 C.2.1 hd hn (k ho H locs ls hP hD hS hl)
theorem g_sipush {n : Int} (C : Cx w p s m args c A cc own nL) (hd : decode cc pc = .ok (.sipush n, 3)) (hn : (Int16.ofInt n).toInt32 = Int32.ofInt n) (k : G w p l e R s m args below meth c A cells slots Q nL (pc + 3) L (iv n :: st) σ) : G w p l e R s m args below meth c A cells slots Q nL pc L st σ := by
  intro ho H locs ls hP hD hS hl
  exact lv_sipush C.1 C.2.1 hd hn (k ho H locs ls hP hD hS hl)
theorem g_lconst0  (C : Cx w p s m args c A cc own nL) (hd : decode cc pc = .ok (.lconst 0, 1))  (k : G w p l e R s m args below meth c A cells slots Q nL (pc + 1) L (jv 0 :: st) σ) : G w p l e R s m args below meth c A cells slots Q nL pc L st σ := by
  intro ho H locs ls hP hD hS hl
  exact lv_lconst C.1 C.2.1 hd rfl (k ho H locs ls hP hD hS hl)
theorem g_lconst1  (C : Cx w p s m args c A cc own nL) (hd : decode cc pc = .ok (.lconst 1, 1))  (k : G w p l e R s m args below meth c A cells slots Q nL (pc + 1) L (jv 1 :: st) σ) : G w p l e R s m args below meth c A cells slots Q nL pc L st σ := by
  intro ho H locs ls hP hD hS hl
  exact lv_lconst C.1 C.2.1 hd rfl (k ho H locs ls hP hD hS hl)
theorem g_iload_n {k0 : Fin 4} {x : Int} (C : Cx w p s m args c A cc own nL) (hd : decode cc pc = .ok (.iload_n k0, 1)) (hx : L[(k0 : Nat)]? = some (some (iv x))) (k : G w p l e R s m args below meth c A cells slots Q nL (pc + 1) L (iv x :: st) σ) : G w p l e R s m args below meth c A cells slots Q nL pc L st σ := by
  intro ho H locs ls hP hD hS hl
  exact lv_iload_n C.1 C.2.1 hd rfl (hl.2.2 _ _ hx) (k ho H locs ls hP hD hS hl)
theorem g_iload {i : Nat} {x : Int} (C : Cx w p s m args c A cc own nL) (hd : decode cc pc = .ok (.iload i, 2)) (hx : L[i]? = some (some (iv x))) (k : G w p l e R s m args below meth c A cells slots Q nL (pc + 2) L (iv x :: st) σ) : G w p l e R s m args below meth c A cells slots Q nL pc L st σ := by
  intro ho H locs ls hP hD hS hl
  exact lv_iload C.1 C.2.1 hd (hl.2.2 _ _ hx) (k ho H locs ls hP hD hS hl)
theorem g_lload_n {k0 : Fin 4} {x : Int} (C : Cx w p s m args c A cc own nL) (hd : decode cc pc = .ok (.lload_n k0, 1)) (hx : L[(k0 : Nat)]? = some (some (jv x))) (k : G w p l e R s m args below meth c A cells slots Q nL (pc + 1) L (jv x :: st) σ) : G w p l e R s m args below meth c A cells slots Q nL pc L st σ := by
  intro ho H locs ls hP hD hS hl
  exact lv_lload_n C.1 C.2.1 hd rfl (hl.2.2 _ _ hx) (k ho H locs ls hP hD hS hl)
theorem g_lload {i : Nat} {x : Int} (C : Cx w p s m args c A cc own nL) (hd : decode cc pc = .ok (.lload i, 2)) (hx : L[i]? = some (some (jv x))) (k : G w p l e R s m args below meth c A cells slots Q nL (pc + 2) L (jv x :: st) σ) : G w p l e R s m args below meth c A cells slots Q nL pc L st σ := by
  intro ho H locs ls hP hD hS hl
  exact lv_lload C.1 C.2.1 hd (hl.2.2 _ _ hx) (k ho H locs ls hP hD hS hl)
theorem g_aload_n {k0 : Fin 4} {x : Nat} (C : Cx w p s m args c A cc own nL) (hd : decode cc pc = .ok (.aload_n k0, 1)) (hx : L[(k0 : Nat)]? = some (some (rv w x))) (k : G w p l e R s m args below meth c A cells slots Q nL (pc + 1) L (rv w x :: st) σ) : G w p l e R s m args below meth c A cells slots Q nL pc L st σ := by
  intro ho H locs ls hP hD hS hl
  exact lv_aload_n C.1 C.2.1 hd rfl (hl.2.2 _ _ hx) (k ho H locs ls hP hD hS hl)
theorem g_aload_nV {k0 : Fin 4} {q : Nat} (C : Cx w p s m args c A cc own nL) (hd : decode cc pc = .ok (.aload_n k0, 1)) (hx : L[(k0 : Nat)]? = some (some (.ref q))) (k : G w p l e R s m args below meth c A cells slots Q nL (pc + 1) L (.ref q :: st) σ) : G w p l e R s m args below meth c A cells slots Q nL pc L st σ := by
  intro ho H locs ls hP hD hS hl
  exact lv_aload_n C.1 C.2.1 hd rfl (hl.2.2 _ _ hx) (k ho H locs ls hP hD hS hl)
theorem g_i2c {x z : Int} (C : Cx w p s m args c A cc own nL) (hd : decode cc pc = .ok (.i2c, 1)) (hz : ((Int32.ofInt x).toUInt32 % 65536).toInt32 = Int32.ofInt z) (k : G w p l e R s m args below meth c A cells slots Q nL (pc + 1) L (iv z :: st) σ) : G w p l e R s m args below meth c A cells slots Q nL pc L (iv x :: st) σ := by
  intro ho H locs ls hP hD hS hl
  exact lv_i2c C.1 C.2.1 hd hz (k ho H locs ls hP hD hS hl)
theorem g_ldcS  (C : Cx w p s m args c A cc own nL) (hd : decode cc pc = .ok (.ldc 68, 2))  (ho1 : own = RX9) (k : G w p l e R s m args below meth c A cells slots Q nL (pc + 2) L (.ref (w.2.2 100) :: st) σ) : G w p l e R s m args below meth c A cells slots Q nL pc L st σ := by
  intro ho H locs ls hP hD hS hl
  subst ho1
  exact va_ldcS C.1 C.2.1 C.2.2.2.1 C.2.2.2.2.2.2.2.2.1 hd (k ho H locs ls hP hD hS hl)
theorem g_gsC {idx : Nat} (C : Cx w p s m args c A cc own nL) (hd : decode cc pc = .ok (.getstatic idx, 3)) (hl0 : Cond.fieldLink own idx "java/lang/String" "COMPACT_STRINGS" "Z" ∈ TB) (k : G w p l e R s m args below meth c A cells slots Q nL (pc + 3) L (iv 1 :: st) σ) : G w p l e R s m args below meth c A cells slots Q nL pc L st σ := by
  intro ho H locs ls hP hD hS hl
  exact va_gets C.1 C.2.1 C.2.2.2.2.2.2.2.2.2.1 hS C.2.2.2.1 (C.2.2.2.2.1 _ hl0) (fun _ h => h) hd (k ho H locs ls hP hD hS hl)
theorem g_gsF {idx : Nat} (C : Cx w p s m args c A cc own nL) (hd : decode cc pc = .ok (.getstatic idx, 3)) (hl0 : Cond.fieldLink own idx "jdk/internal/util/Preconditions" "SIOOBE_FORMATTER" "Ljava/util/function/BiFunction;" ∈ TB) (k1 : G w p l e R s m args below meth c A cells slots Q nL (pc + 3) L (.null :: st) σ) (k2 : ∀ q : Nat, G w p l e R s m args below meth c A cells slots Q nL (pc + 3) L (.ref q :: st) σ) : G w p l e R s m args below meth c A cells slots Q nL pc L st σ := by
  intro ho H locs ls hP hD hS hl
  rcases C.2.2.2.2.2.2.2.2.2.2.1 with hF | ⟨q, hF⟩
  · exact va_gets C.1 C.2.1 hF hS C.2.2.2.1 (C.2.2.2.2.1 _ hl0) (fun _ h => h) hd (k1 ho H locs ls hP hD hS hl)
  · exact va_gets C.1 C.2.1 hF hS C.2.2.2.1 (C.2.2.2.2.1 _ hl0) (fun _ h => h) hd (k2 q ho H locs ls hP hD hS hl)
theorem g_sCo {idx : Nat} (C : Cx w p s m args c A cc own nL) (hd : decode cc pc = .ok (.getfield idx, 3)) (hl0 : Cond.fieldLink own idx "java/lang/String" "coder" "B" ∈ TB) (k : G w p l e R s m args below meth c A cells slots Q nL (pc + 3) L (iv 0 :: st) σ) : G w p l e R s m args below meth c A cells slots Q nL pc L (.ref (w.2.2 100) :: st) σ := by
  intro ho H locs ls hP hD hS hl
  exact vk_getf C.1 C.2.1 (C.2.2.2.2.2.2.2.1.1 0 (Nat.lt_succ_self 0)).2.1 hS C.2.2.2.1 (C.2.2.2.2.1 _ hl0) (fun _ h => h) hd (k ho H locs ls hP hD hS hl)
theorem g_sVa {idx : Nat} (C : Cx w p s m args c A cc own nL) (hd : decode cc pc = .ok (.getfield idx, 3)) (hl0 : Cond.fieldLink own idx "java/lang/String" "value" "[B" ∈ TB) (k : G w p l e R s m args below meth c A cells slots Q nL (pc + 3) L (.ref (w.2.2 101) :: st) σ) : G w p l e R s m args below meth c A cells slots Q nL pc L (.ref (w.2.2 100) :: st) σ := by
  intro ho H locs ls hP hD hS hl
  exact vk_getf C.1 C.2.1 (C.2.2.2.2.2.2.2.1.1 0 (Nat.lt_succ_self 0)).2.2.1 hS C.2.2.2.1 (C.2.2.2.2.1 _ hl0) (fun _ h => h) hd (k ho H locs ls hP hD hS hl)
theorem g_sLe  (C : Cx w p s m args c A cc own nL) (hd : decode cc pc = .ok (.arraylength, 1))  (k : G w p l e R s m args below meth c A cells slots Q nL (pc + 1) L (iv 127 :: st) σ) : G w p l e R s m args below meth c A cells slots Q nL pc L (.ref (w.2.2 101) :: st) σ := by
  intro ho H locs ls hP hD hS hl
  exact va_tlen C.1 C.2.1 (C.2.2.2.2.2.2.2.1.1 0 (Nat.lt_succ_self 0)).2.2.2 hS rfl hd (k ho H locs ls hP hD hS hl)
theorem g_sBa {i : Int} (C : Cx w p s m args c A cc own nL) (hd : decode cc pc = .ok (.baload, 1)) (hi : InI i) (h0 : 0 ≤ i ∧ i < 127) (k : G w p l e R s m args below meth c A cells slots Q nL (pc + 1) L (iv (WB.getD i.toNat 0).toInt :: st) σ) : G w p l e R s m args below meth c A cells slots Q nL pc L (iv i :: .ref (w.2.2 101) :: st) σ := by
  intro ho H locs ls hP hD hS hl
  have k9 := k ho H locs ls hP hD hS hl
  obtain ⟨v1, v2⟩ := iv_ix (N := 127) hi h0 rfl
  unfold iv at k9 ⊢
  rw [oi] at k9
  exact va_tb C.1 C.2.1 (C.2.2.2.2.2.2.2.1.1 0 (Nat.lt_succ_self 0)).2.2.2 hS v1 (by rw [v2]; rfl) hd k9
theorem g_aload {i : Nat} {x : Nat} (C : Cx w p s m args c A cc own nL) (hd : decode cc pc = .ok (.aload i, 2)) (hx : L[i]? = some (some (rv w x))) (k : G w p l e R s m args below meth c A cells slots Q nL (pc + 2) L (rv w x :: st) σ) : G w p l e R s m args below meth c A cells slots Q nL pc L st σ := by
  intro ho H locs ls hP hD hS hl
  exact lv_aload C.1 C.2.1 hd (hl.2.2 _ _ hx) (k ho H locs ls hP hD hS hl)
theorem g_istore_n {k0 : Fin 4} {x : Int} {L1 : List (Option Value)} (C : Cx w p s m args c A cc own nL) (hd : decode cc pc = .ok (.istore_n k0, 1)) (hs : okS L (k0 : Nat) = true) (hn : (k0 : Nat) < nL) (hL : L.set (k0 : Nat) (some (iv x)) = L1) (k : G w p l e R s m args below meth c A cells slots Q nL (pc + 1) L1 (st) σ) : G w p l e R s m args below meth c A cells slots Q nL pc L (iv x :: st) σ := by
  intro ho H locs ls hP hD hS hl
  subst hL
  exact lv_istore_n C.1 C.2.1 hd rfl hl.has hn rfl (fun ls9 h9 => k ho H locs ls9 hP hD hS (LR.st1 hs h9))
theorem g_istore {i : Nat} {x : Int} {L1 : List (Option Value)} (C : Cx w p s m args c A cc own nL) (hd : decode cc pc = .ok (.istore i, 2)) (hs : okS L i = true) (hn : i < nL) (hL : L.set i (some (iv x)) = L1) (k : G w p l e R s m args below meth c A cells slots Q nL (pc + 2) L1 (st) σ) : G w p l e R s m args below meth c A cells slots Q nL pc L (iv x :: st) σ := by
  intro ho H locs ls hP hD hS hl
  subst hL
  exact lv_istore C.1 C.2.1 hd hl.has hn rfl (fun ls9 h9 => k ho H locs ls9 hP hD hS (LR.st1 hs h9))
theorem g_astore_n {k0 : Fin 4} {x : Nat} {L1 : List (Option Value)} (C : Cx w p s m args c A cc own nL) (hd : decode cc pc = .ok (.astore_n k0, 1)) (hs : okS L (k0 : Nat) = true) (hn : (k0 : Nat) < nL) (hL : L.set (k0 : Nat) (some (rv w x)) = L1) (k : G w p l e R s m args below meth c A cells slots Q nL (pc + 1) L1 (st) σ) : G w p l e R s m args below meth c A cells slots Q nL pc L (rv w x :: st) σ := by
  intro ho H locs ls hP hD hS hl
  subst hL
  exact lv_astore_n C.1 C.2.1 hd rfl hl.has hn rfl (fun ls9 h9 => k ho H locs ls9 hP hD hS (LR.st1 hs h9))
theorem g_astore {i : Nat} {x : Nat} {L1 : List (Option Value)} (C : Cx w p s m args c A cc own nL) (hd : decode cc pc = .ok (.astore i, 2)) (hs : okS L i = true) (hn : i < nL) (hL : L.set i (some (rv w x)) = L1) (k : G w p l e R s m args below meth c A cells slots Q nL (pc + 2) L1 (st) σ) : G w p l e R s m args below meth c A cells slots Q nL pc L (rv w x :: st) σ := by
  intro ho H locs ls hP hD hS hl
  subst hL
  exact lv_astore C.1 C.2.1 hd hl.has hn rfl (fun ls9 h9 => k ho H locs ls9 hP hD hS (LR.st1 hs h9))
theorem g_lstore_n {k0 : Fin 4} {x : Int} {L1 : List (Option Value)} (C : Cx w p s m args c A cc own nL) (hd : decode cc pc = .ok (.lstore_n k0, 1)) (hs : okS L (k0 : Nat) = true) (hn : (k0 : Nat) + 1 < nL) (hL : (L.set (k0 : Nat) (some (jv x))).set ((k0 : Nat) + 1) none = L1) (k : G w p l e R s m args below meth c A cells slots Q nL (pc + 1) L1 (st) σ) : G w p l e R s m args below meth c A cells slots Q nL pc L (jv x :: st) σ := by
  intro ho H locs ls hP hD hS hl
  subst hL
  exact lv_lstore_n C.1 C.2.1 hd rfl hl.has hn rfl (fun ls9 h9 => k ho H locs ls9 hP hD hS (LR.st2 hs h9))
theorem g_lstore {i : Nat} {x : Int} {L1 : List (Option Value)} (C : Cx w p s m args c A cc own nL) (hd : decode cc pc = .ok (.lstore i, 2)) (hs : okS L i = true) (hn : i + 1 < nL) (hL : (L.set i (some (jv x))).set (i + 1) none = L1) (k : G w p l e R s m args below meth c A cells slots Q nL (pc + 2) L1 (st) σ) : G w p l e R s m args below meth c A cells slots Q nL pc L (jv x :: st) σ := by
  intro ho H locs ls hP hD hS hl
  subst hL
  exact lv_lstore C.1 C.2.1 hd hl.has hn rfl (fun ls9 h9 => k ho H locs ls9 hP hD hS (LR.st2 hs h9))
theorem g_iinc {i : Nat} {n : Int} {x : Int} {L1 : List (Option Value)} (C : Cx w p s m args c A cc own nL) (hd : decode cc pc = .ok (.iinc i n, 3)) (hx : L[i]? = some (some (iv x))) (hs : okS L i = true) (hn : i < nL) (hL : L.set i (some (iv (wr (x + n)))) = L1) (k : G w p l e R s m args below meth c A cells slots Q nL (pc + 3) L1 (st) σ) : G w p l e R s m args below meth c A cells slots Q nL pc L st σ := by
  intro ho H locs ls hP hD hS hl
  subst hL
  obtain ⟨j, hj⟩ := List.getElem?_of_mem (mem_lvs.mpr hx)
  exact lv_iinc C.1 C.2.1 hd hl.has hj (v := Int32.ofInt (wr (x + n))) (by rw [wr, oi, Int32.ofInt_add]) hn rfl (fun ls9 h9 => k ho H locs ls9 hP hD hS (LR.st1 hs h9))
theorem g_iadd {x y : Int} (C : Cx w p s m args c A cc own nL) (hd : decode cc pc = .ok (.iadd, 1))  (k : G w p l e R s m args below meth c A cells slots Q nL (pc + 1) L (iv (wr (x + y)) :: st) σ) : G w p l e R s m args below meth c A cells slots Q nL pc L (iv y :: iv x :: st) σ := by
  intro ho H locs ls hP hD hS hl
  have k9 := k ho H locs ls hP hD hS hl
  unfold iv at k9 ⊢
  rw [wr, oi, Int32.ofInt_add] at k9
  exact lv_iadd C.1 C.2.1 hd k9
theorem g_isub {x y : Int} (C : Cx w p s m args c A cc own nL) (hd : decode cc pc = .ok (.isub, 1))  (k : G w p l e R s m args below meth c A cells slots Q nL (pc + 1) L (iv (wr (x - y)) :: st) σ) : G w p l e R s m args below meth c A cells slots Q nL pc L (iv y :: iv x :: st) σ := by
  intro ho H locs ls hP hD hS hl
  have k9 := k ho H locs ls hP hD hS hl
  unfold iv at k9 ⊢
  rw [wr, oi, Int32.ofInt_sub] at k9
  exact lv_isub C.1 C.2.1 hd k9
theorem g_imul {x y : Int} (C : Cx w p s m args c A cc own nL) (hd : decode cc pc = .ok (.imul, 1))  (k : G w p l e R s m args below meth c A cells slots Q nL (pc + 1) L (iv (wr (x * y)) :: st) σ) : G w p l e R s m args below meth c A cells slots Q nL pc L (iv y :: iv x :: st) σ := by
  intro ho H locs ls hP hD hS hl
  have k9 := k ho H locs ls hP hD hS hl
  unfold iv at k9 ⊢
  rw [wr, oi, Int32.ofInt_mul] at k9
  exact lv_imul C.1 C.2.1 hd k9
theorem g_iand {x y : Int} (C : Cx w p s m args c A cc own nL) (hd : decode cc pc = .ok (.iand, 1))  (k : G w p l e R s m args below meth c A cells slots Q nL (pc + 1) L (iv (andI x y) :: st) σ) : G w p l e R s m args below meth c A cells slots Q nL pc L (iv y :: iv x :: st) σ := by
  intro ho H locs ls hP hD hS hl
  have k9 := k ho H locs ls hP hD hS hl
  unfold iv at k9 ⊢
  rw [andI, oi] at k9
  exact lv_iand C.1 C.2.1 hd k9
theorem g_ior {x y : Int} (C : Cx w p s m args c A cc own nL) (hd : decode cc pc = .ok (.ior, 1))  (k : G w p l e R s m args below meth c A cells slots Q nL (pc + 1) L (iv (orI x y) :: st) σ) : G w p l e R s m args below meth c A cells slots Q nL pc L (iv y :: iv x :: st) σ := by
  intro ho H locs ls hP hD hS hl
  have k9 := k ho H locs ls hP hD hS hl
  unfold iv at k9 ⊢
  rw [orI, oi] at k9
  exact lv_ior C.1 C.2.1 hd k9
theorem g_ixor {x y : Int} (C : Cx w p s m args c A cc own nL) (hd : decode cc pc = .ok (.ixor, 1))  (k : G w p l e R s m args below meth c A cells slots Q nL (pc + 1) L (iv (xorI x y) :: st) σ) : G w p l e R s m args below meth c A cells slots Q nL pc L (iv y :: iv x :: st) σ := by
  intro ho H locs ls hP hD hS hl
  have k9 := k ho H locs ls hP hD hS hl
  unfold iv at k9 ⊢
  rw [xorI, oi] at k9
  exact lv_ixor C.1 C.2.1 hd k9
theorem g_ishl {x y : Int} (C : Cx w p s m args c A cc own nL) (hd : decode cc pc = .ok (.ishl, 1))  (k : G w p l e R s m args below meth c A cells slots Q nL (pc + 1) L (iv (shlI x y) :: st) σ) : G w p l e R s m args below meth c A cells slots Q nL pc L (iv y :: iv x :: st) σ := by
  intro ho H locs ls hP hD hS hl
  have k9 := k ho H locs ls hP hD hS hl
  unfold iv at k9 ⊢
  rw [shlI, oi] at k9
  exact lv_ishl C.1 C.2.1 hd k9
theorem g_ishr {x y : Int} (C : Cx w p s m args c A cc own nL) (hd : decode cc pc = .ok (.ishr, 1))  (k : G w p l e R s m args below meth c A cells slots Q nL (pc + 1) L (iv (shrI x y) :: st) σ) : G w p l e R s m args below meth c A cells slots Q nL pc L (iv y :: iv x :: st) σ := by
  intro ho H locs ls hP hD hS hl
  have k9 := k ho H locs ls hP hD hS hl
  unfold iv at k9 ⊢
  rw [shrI, oi] at k9
  exact lv_ishr C.1 C.2.1 hd k9
theorem g_iushr {x y : Int} (C : Cx w p s m args c A cc own nL) (hd : decode cc pc = .ok (.iushr, 1))  (k : G w p l e R s m args below meth c A cells slots Q nL (pc + 1) L (iv (ushrI x y) :: st) σ) : G w p l e R s m args below meth c A cells slots Q nL pc L (iv y :: iv x :: st) σ := by
  intro ho H locs ls hP hD hS hl
  have k9 := k ho H locs ls hP hD hS hl
  unfold iv at k9 ⊢
  rw [ushrI, oi] at k9
  exact lv_iushr C.1 C.2.1 hd rfl k9
theorem g_ineg {x : Int} (C : Cx w p s m args c A cc own nL) (hd : decode cc pc = .ok (.ineg, 1))  (k : G w p l e R s m args below meth c A cells slots Q nL (pc + 1) L (iv (wr (-x)) :: st) σ) : G w p l e R s m args below meth c A cells slots Q nL pc L (iv x :: st) σ := by
  intro ho H locs ls hP hD hS hl
  have k9 := k ho H locs ls hP hD hS hl
  unfold iv at k9 ⊢
  rw [wr, oi, Int32.ofInt_neg] at k9
  exact lv_ineg C.1 C.2.1 hd k9
theorem g_idiv {x y z : Int} (C : Cx w p s m args c A cc own nL) (hd : decode cc pc = .ok (.idiv, 1)) (hy : InI y) (hz : divI x y = some z) (k : InI z → G w p l e R s m args below meth c A cells slots Q nL (pc + 1) L (iv z :: st) σ) : G w p l e R s m args below meth c A cells slots Q nL pc L (iv y :: iv x :: st) σ := by
  intro ho H locs ls hP hD hS hl
  unfold divI at hz
  split at hz
  · cases hz
  next hne =>
    cases hz
    have k9 := k (iI _) ho H locs ls hP hD hS hl
    unfold iv at k9 ⊢
    rw [oi] at k9
    exact lv_idiv C.1 C.2.1 hd (by rw [i0, iv_eq hy cI0]; exact hne) k9
theorem g_irem {x y z : Int} (C : Cx w p s m args c A cc own nL) (hd : decode cc pc = .ok (.irem, 1)) (hy : InI y) (hz : remI x y = some z) (k : InI z → G w p l e R s m args below meth c A cells slots Q nL (pc + 1) L (iv z :: st) σ) : G w p l e R s m args below meth c A cells slots Q nL pc L (iv y :: iv x :: st) σ := by
  intro ho H locs ls hP hD hS hl
  unfold remI at hz
  split at hz
  · cases hz
  next hne =>
    cases hz
    have k9 := k (iI _) ho H locs ls hP hD hS hl
    unfold iv at k9 ⊢
    rw [oi] at k9
    exact lv_irem C.1 C.2.1 hd (by rw [i0, iv_eq hy cI0]; exact hne) k9
theorem g_ladd {x y : Int} (C : Cx w p s m args c A cc own nL) (hd : decode cc pc = .ok (.ladd, 1))  (k : G w p l e R s m args below meth c A cells slots Q nL (pc + 1) L (jv (wl (x + y)) :: st) σ) : G w p l e R s m args below meth c A cells slots Q nL pc L (jv y :: jv x :: st) σ := by
  intro ho H locs ls hP hD hS hl
  have k9 := k ho H locs ls hP hD hS hl
  unfold jv at k9 ⊢
  rw [wl, ol, Int64.ofInt_add] at k9
  exact lv_ladd C.1 C.2.1 hd k9
theorem g_lmul {x y : Int} (C : Cx w p s m args c A cc own nL) (hd : decode cc pc = .ok (.lmul, 1))  (k : G w p l e R s m args below meth c A cells slots Q nL (pc + 1) L (jv (wl (x * y)) :: st) σ) : G w p l e R s m args below meth c A cells slots Q nL pc L (jv y :: jv x :: st) σ := by
  intro ho H locs ls hP hD hS hl
  have k9 := k ho H locs ls hP hD hS hl
  unfold jv at k9 ⊢
  rw [wl, ol, Int64.ofInt_mul] at k9
  exact lv_lmul C.1 C.2.1 hd k9
theorem g_lor {x y : Int} (C : Cx w p s m args c A cc own nL) (hd : decode cc pc = .ok (.lor, 1))  (k : G w p l e R s m args below meth c A cells slots Q nL (pc + 1) L (jv (orL x y) :: st) σ) : G w p l e R s m args below meth c A cells slots Q nL pc L (jv y :: jv x :: st) σ := by
  intro ho H locs ls hP hD hS hl
  have k9 := k ho H locs ls hP hD hS hl
  unfold jv at k9 ⊢
  rw [orL, ol] at k9
  exact lv_lor C.1 C.2.1 hd k9
theorem g_lshl {x y : Int} (C : Cx w p s m args c A cc own nL) (hd : decode cc pc = .ok (.lshl, 1))  (k : G w p l e R s m args below meth c A cells slots Q nL (pc + 1) L (jv (shlL x y) :: st) σ) : G w p l e R s m args below meth c A cells slots Q nL pc L (iv y :: jv x :: st) σ := by
  intro ho H locs ls hP hD hS hl
  have k9 := k ho H locs ls hP hD hS hl
  unfold iv
  unfold jv at k9 ⊢
  rw [shlL, ol] at k9
  exact lv_lshl C.1 C.2.1 hd rfl k9
theorem g_i2l {x : Int} (C : Cx w p s m args c A cc own nL) (hd : decode cc pc = .ok (.i2l, 1)) (hx : InI x) (k : G w p l e R s m args below meth c A cells slots Q nL (pc + 1) L (jv x :: st) σ) : G w p l e R s m args below meth c A cells slots Q nL pc L (iv x :: st) σ := by
  intro ho H locs ls hP hD hS hl
  have k9 := k ho H locs ls hP hD hS hl
  unfold iv
  unfold jv at k9
  exact lv_i2l C.1 C.2.1 hd (by rw [← Int64.ofInt_int32ToInt, ti hx]) k9
theorem g_i2b {x : Int} (C : Cx w p s m args c A cc own nL) (hd : decode cc pc = .ok (.i2b, 1))  (k : G w p l e R s m args below meth c A cells slots Q nL (pc + 1) L (iv (i2bI x) :: st) σ) : G w p l e R s m args below meth c A cells slots Q nL pc L (iv x :: st) σ := by
  intro ho H locs ls hP hD hS hl
  have k9 := k ho H locs ls hP hD hS hl
  unfold iv at k9 ⊢
  rw [i2bI, oi] at k9
  exact lv_i2b C.1 C.2.1 hd rfl k9
theorem g_lcmp {x y : Int} (C : Cx w p s m args c A cc own nL) (hd : decode cc pc = .ok (.lcmp, 1)) (hx : InL x) (hy : InL y) (k : G w p l e R s m args below meth c A cells slots Q nL (pc + 1) L (iv (lcI x y) :: st) σ) : G w p l e R s m args below meth c A cells slots Q nL pc L (jv y :: jv x :: st) σ := by
  intro ho H locs ls hP hD hS hl
  have k9 := k ho H locs ls hP hD hS hl
  have e9 : iv (lcI x y) = .int (lg_cmp (Int64.ofInt x) (Int64.ofInt y)) := by
    unfold lcI lg_cmp iv
    have h1 : Int64.ofInt x > Int64.ofInt y ↔ y < x := by show Int64.ofInt y < Int64.ofInt x ↔ _; rw [Int64.lt_iff_toInt_lt, tl hx, tl hy]
    have h2 : Int64.ofInt x = Int64.ofInt y ↔ x = y := by rw [← Int64.toInt_inj, tl hx, tl hy]
    simp only [h1, h2]
    split
    · rfl
    · split <;> rfl
  rw [e9] at k9
  exact W.lcmp C.1 C.2.1 hd k9
theorem g_ldc2 {index : Nat} {n : Int} {v : Int64} (C : Cx w p s m args c A cc own nL) (hd : decode cc pc = .ok (.ldc2_w index, 3)) (hv : Int64.ofInt n = v) (hc : Cond.constantLong own index v ∈ TB) (k : G w p l e R s m args below meth c A cells slots Q nL (pc + 3) L (jv n :: st) σ) : G w p l e R s m args below meth c A cells slots Q nL pc L st σ := by
  intro ho H locs ls hP hD hS hl
  subst hv
  exact lv_ldc2 C.1 C.2.1 C.2.2.2.1 (C.2.2.2.2.1 _ hc) hd (k ho H locs ls hP hD hS hl)
theorem g_dup {v : Value} (C : Cx w p s m args c A cc own nL) (hd : decode cc pc = .ok (.dup, 1)) (hv : v.category = 1) (k : G w p l e R s m args below meth c A cells slots Q nL (pc + 1) L (v :: v :: st) σ) : G w p l e R s m args below meth c A cells slots Q nL pc L (v :: st) σ := by
  intro ho H locs ls hP hD hS hl
  exact lv_dup C.1 C.2.1 hd hv (k ho H locs ls hP hD hS hl)
theorem g_pop {v : Value} (C : Cx w p s m args c A cc own nL) (hd : decode cc pc = .ok (.pop, 1)) (hv : v.category = 1) (k : G w p l e R s m args below meth c A cells slots Q nL (pc + 1) L (st) σ) : G w p l e R s m args below meth c A cells slots Q nL pc L (v :: st) σ := by
  intro ho H locs ls hP hD hS hl
  exact lv_pop C.1 C.2.1 hd hv (k ho H locs ls hP hD hS hl)
theorem g_dup_x1 {v u : Value} (C : Cx w p s m args c A cc own nL) (hd : decode cc pc = .ok (.dup_x1, 1)) (hv : v.category = 1) (hu : u.category = 1) (k : G w p l e R s m args below meth c A cells slots Q nL (pc + 1) L (v :: u :: v :: st) σ) : G w p l e R s m args below meth c A cells slots Q nL pc L (v :: u :: st) σ := by
  intro ho H locs ls hP hD hS hl
  exact lv_dup_x1 C.1 C.2.1 hd hv hu (k ho H locs ls hP hD hS hl)
theorem g_dup2 {v u : Value} (C : Cx w p s m args c A cc own nL) (hd : decode cc pc = .ok (.dup2, 1)) (hv : v.category = 1) (hu : u.category = 1) (k : G w p l e R s m args below meth c A cells slots Q nL (pc + 1) L (v :: u :: v :: u :: st) σ) : G w p l e R s m args below meth c A cells slots Q nL pc L (v :: u :: st) σ := by
  intro ho H locs ls hP hD hS hl
  exact lv_dup2_11 C.1 C.2.1 hd hv hu (k ho H locs ls hP hD hS hl)
theorem g_icmp_eq {x y : Int} {off : Int} {tgt : Nat} (C : Cx w p s m args c A cc own nL) (hd : decode cc pc = .ok (.if_icmp .eq off, 3)) (hx : InI x) (hy : InI y) (ht : (pc : Int) + off = (tgt : Int)) (kt : x = y → G w p l e R s m args below meth c A cells slots Q nL tgt L st σ) (kf : ¬ (x = y) → G w p l e R s m args below meth c A cells slots Q nL (pc + 3) L st σ) : G w p l e R s m args below meth c A cells slots Q nL pc L (iv y :: iv x :: st) σ := by
  intro ho H locs ls hP hD hS hl
  exact lv_icmp_eq C.1 C.2.1 hd ht (fun q => kt ((iv_eq hx hy).mp q) ho H locs ls hP hD hS hl) (fun q => kf (fun z => q ((iv_eq hx hy).mpr z)) ho H locs ls hP hD hS hl)
theorem g_if_eq {x : Int} {off : Int} {tgt : Nat} (C : Cx w p s m args c A cc own nL) (hd : decode cc pc = .ok (.ifCond .eq off, 3)) (hx : InI x) (ht : (pc : Int) + off = (tgt : Int)) (kt : x = 0 → G w p l e R s m args below meth c A cells slots Q nL tgt L st σ) (kf : ¬ (x = 0) → G w p l e R s m args below meth c A cells slots Q nL (pc + 3) L st σ) : G w p l e R s m args below meth c A cells slots Q nL pc L (iv x :: st) σ := by
  intro ho H locs ls hP hD hS hl
  exact lv_if_eq C.1 C.2.1 hd ht (fun q => kt ((iv_eq hx cI0).mp q) ho H locs ls hP hD hS hl) (fun q => kf (fun z => q ((iv_eq hx cI0).mpr z)) ho H locs ls hP hD hS hl)
theorem g_icmp_ne {x y : Int} {off : Int} {tgt : Nat} (C : Cx w p s m args c A cc own nL) (hd : decode cc pc = .ok (.if_icmp .ne off, 3)) (hx : InI x) (hy : InI y) (ht : (pc : Int) + off = (tgt : Int)) (kt : ¬ x = y → G w p l e R s m args below meth c A cells slots Q nL tgt L st σ) (kf : x = y → G w p l e R s m args below meth c A cells slots Q nL (pc + 3) L st σ) : G w p l e R s m args below meth c A cells slots Q nL pc L (iv y :: iv x :: st) σ := by
  intro ho H locs ls hP hD hS hl
  exact lv_icmp_ne C.1 C.2.1 hd ht (fun q => kt (fun z => q ((iv_eq hx hy).mpr z)) ho H locs ls hP hD hS hl) (fun q => kf ((iv_eq hx hy).mp q) ho H locs ls hP hD hS hl)
theorem g_if_ne {x : Int} {off : Int} {tgt : Nat} (C : Cx w p s m args c A cc own nL) (hd : decode cc pc = .ok (.ifCond .ne off, 3)) (hx : InI x) (ht : (pc : Int) + off = (tgt : Int)) (kt : ¬ x = 0 → G w p l e R s m args below meth c A cells slots Q nL tgt L st σ) (kf : x = 0 → G w p l e R s m args below meth c A cells slots Q nL (pc + 3) L st σ) : G w p l e R s m args below meth c A cells slots Q nL pc L (iv x :: st) σ := by
  intro ho H locs ls hP hD hS hl
  exact lv_if_ne C.1 C.2.1 hd ht (fun q => kt (fun z => q ((iv_eq hx cI0).mpr z)) ho H locs ls hP hD hS hl) (fun q => kf ((iv_eq hx cI0).mp q) ho H locs ls hP hD hS hl)
theorem g_icmp_lt {x y : Int} {off : Int} {tgt : Nat} (C : Cx w p s m args c A cc own nL) (hd : decode cc pc = .ok (.if_icmp .lt off, 3)) (hx : InI x) (hy : InI y) (ht : (pc : Int) + off = (tgt : Int)) (kt : x < y → G w p l e R s m args below meth c A cells slots Q nL tgt L st σ) (kf : ¬ (x < y) → G w p l e R s m args below meth c A cells slots Q nL (pc + 3) L st σ) : G w p l e R s m args below meth c A cells slots Q nL pc L (iv y :: iv x :: st) σ := by
  intro ho H locs ls hP hD hS hl
  exact lv_icmp_lt C.1 C.2.1 hd ht (fun q => kt ((iv_lt hx hy).mp q) ho H locs ls hP hD hS hl) (fun q => kf (fun z => q ((iv_lt hx hy).mpr z)) ho H locs ls hP hD hS hl)
theorem g_if_lt {x : Int} {off : Int} {tgt : Nat} (C : Cx w p s m args c A cc own nL) (hd : decode cc pc = .ok (.ifCond .lt off, 3)) (hx : InI x) (ht : (pc : Int) + off = (tgt : Int)) (kt : x < 0 → G w p l e R s m args below meth c A cells slots Q nL tgt L st σ) (kf : ¬ (x < 0) → G w p l e R s m args below meth c A cells slots Q nL (pc + 3) L st σ) : G w p l e R s m args below meth c A cells slots Q nL pc L (iv x :: st) σ := by
  intro ho H locs ls hP hD hS hl
  exact lv_if_lt C.1 C.2.1 hd ht (fun q => kt ((iv_lt hx cI0).mp q) ho H locs ls hP hD hS hl) (fun q => kf (fun z => q ((iv_lt hx cI0).mpr z)) ho H locs ls hP hD hS hl)
theorem g_icmp_ge {x y : Int} {off : Int} {tgt : Nat} (C : Cx w p s m args c A cc own nL) (hd : decode cc pc = .ok (.if_icmp .ge off, 3)) (hx : InI x) (hy : InI y) (ht : (pc : Int) + off = (tgt : Int)) (kt : y ≤ x → G w p l e R s m args below meth c A cells slots Q nL tgt L st σ) (kf : ¬ (y ≤ x) → G w p l e R s m args below meth c A cells slots Q nL (pc + 3) L st σ) : G w p l e R s m args below meth c A cells slots Q nL pc L (iv y :: iv x :: st) σ := by
  intro ho H locs ls hP hD hS hl
  exact lv_icmp_ge C.1 C.2.1 hd ht (fun q => kt ((iv_le hy hx).mp q) ho H locs ls hP hD hS hl) (fun q => kf (fun z => q ((iv_le hy hx).mpr z)) ho H locs ls hP hD hS hl)
theorem g_if_ge {x : Int} {off : Int} {tgt : Nat} (C : Cx w p s m args c A cc own nL) (hd : decode cc pc = .ok (.ifCond .ge off, 3)) (hx : InI x) (ht : (pc : Int) + off = (tgt : Int)) (kt : 0 ≤ x → G w p l e R s m args below meth c A cells slots Q nL tgt L st σ) (kf : ¬ (0 ≤ x) → G w p l e R s m args below meth c A cells slots Q nL (pc + 3) L st σ) : G w p l e R s m args below meth c A cells slots Q nL pc L (iv x :: st) σ := by
  intro ho H locs ls hP hD hS hl
  exact lv_if_ge C.1 C.2.1 hd ht (fun q => kt ((iv_le cI0 hx).mp q) ho H locs ls hP hD hS hl) (fun q => kf (fun z => q ((iv_le cI0 hx).mpr z)) ho H locs ls hP hD hS hl)
theorem g_icmp_gt {x y : Int} {off : Int} {tgt : Nat} (C : Cx w p s m args c A cc own nL) (hd : decode cc pc = .ok (.if_icmp .gt off, 3)) (hx : InI x) (hy : InI y) (ht : (pc : Int) + off = (tgt : Int)) (kt : y < x → G w p l e R s m args below meth c A cells slots Q nL tgt L st σ) (kf : ¬ (y < x) → G w p l e R s m args below meth c A cells slots Q nL (pc + 3) L st σ) : G w p l e R s m args below meth c A cells slots Q nL pc L (iv y :: iv x :: st) σ := by
  intro ho H locs ls hP hD hS hl
  exact lv_icmp_gt C.1 C.2.1 hd ht (fun q => kt ((iv_lt hy hx).mp q) ho H locs ls hP hD hS hl) (fun q => kf (fun z => q ((iv_lt hy hx).mpr z)) ho H locs ls hP hD hS hl)
theorem g_if_gt {x : Int} {off : Int} {tgt : Nat} (C : Cx w p s m args c A cc own nL) (hd : decode cc pc = .ok (.ifCond .gt off, 3)) (hx : InI x) (ht : (pc : Int) + off = (tgt : Int)) (kt : 0 < x → G w p l e R s m args below meth c A cells slots Q nL tgt L st σ) (kf : ¬ (0 < x) → G w p l e R s m args below meth c A cells slots Q nL (pc + 3) L st σ) : G w p l e R s m args below meth c A cells slots Q nL pc L (iv x :: st) σ := by
  intro ho H locs ls hP hD hS hl
  exact lv_if_gt C.1 C.2.1 hd ht (fun q => kt ((iv_lt cI0 hx).mp q) ho H locs ls hP hD hS hl) (fun q => kf (fun z => q ((iv_lt cI0 hx).mpr z)) ho H locs ls hP hD hS hl)
theorem g_icmp_le {x y : Int} {off : Int} {tgt : Nat} (C : Cx w p s m args c A cc own nL) (hd : decode cc pc = .ok (.if_icmp .le off, 3)) (hx : InI x) (hy : InI y) (ht : (pc : Int) + off = (tgt : Int)) (kt : x ≤ y → G w p l e R s m args below meth c A cells slots Q nL tgt L st σ) (kf : ¬ (x ≤ y) → G w p l e R s m args below meth c A cells slots Q nL (pc + 3) L st σ) : G w p l e R s m args below meth c A cells slots Q nL pc L (iv y :: iv x :: st) σ := by
  intro ho H locs ls hP hD hS hl
  exact lv_icmp_le C.1 C.2.1 hd ht (fun q => kt ((iv_le hx hy).mp q) ho H locs ls hP hD hS hl) (fun q => kf (fun z => q ((iv_le hx hy).mpr z)) ho H locs ls hP hD hS hl)
theorem g_if_le {x : Int} {off : Int} {tgt : Nat} (C : Cx w p s m args c A cc own nL) (hd : decode cc pc = .ok (.ifCond .le off, 3)) (hx : InI x) (ht : (pc : Int) + off = (tgt : Int)) (kt : x ≤ 0 → G w p l e R s m args below meth c A cells slots Q nL tgt L st σ) (kf : ¬ (x ≤ 0) → G w p l e R s m args below meth c A cells slots Q nL (pc + 3) L st σ) : G w p l e R s m args below meth c A cells slots Q nL pc L (iv x :: st) σ := by
  intro ho H locs ls hP hD hS hl
  exact lv_if_le C.1 C.2.1 hd ht (fun q => kt ((iv_le hx cI0).mp q) ho H locs ls hP hD hS hl) (fun q => kf (fun z => q ((iv_le hx cI0).mpr z)) ho H locs ls hP hD hS hl)
theorem g_goto {off : Int} {tgt : Nat} (C : Cx w p s m args c A cc own nL) (hd : decode cc pc = .ok (.goto off, 3)) (ht : (pc : Int) + off = (tgt : Int)) (k : G w p l e R s m args below meth c A cells slots Q nL (tgt) L (st) σ) : G w p l e R s m args below meth c A cells slots Q nL pc L st σ := by
  intro ho H locs ls hP hD hS hl
  exact lv_goto C.1 C.2.1 hd ht (k ho H locs ls hP hD hS hl)
theorem g_tabI {dflt lo hi : Int} {offs : Array Int} {len : Nat} {x off : Int} {tgt : Nat} (C : Cx w p s m args c A cc own nL) (hd : decode cc pc = .ok (.tableswitch dflt lo hi offs, len)) (hx : InI x) (h1 : ¬ x < lo) (h2 : ¬ hi < x) (hof : offs[(x - lo).toNat]? = some off) (ht : (pc : Int) + off = (tgt : Int)) (k : G w p l e R s m args below meth c A cells slots Q nL (tgt) L (st) σ) : G w p l e R s m args below meth c A cells slots Q nL pc L (iv x :: st) σ := by
  intro ho H locs ls hP hD hS hl
  exact lv_tableIn C.1 C.2.1 hd (by rw [ti hx]; exact h1) (by rw [ti hx]; exact h2) (by rw [ti hx]; exact hof) ht (k ho H locs ls hP hD hS hl)
theorem g_tabO {dflt lo hi : Int} {offs : Array Int} {len : Nat} {x : Int} {tgt : Nat} (C : Cx w p s m args c A cc own nL) (hd : decode cc pc = .ok (.tableswitch dflt lo hi offs, len)) (hx : InI x) (h1 : x < lo ∨ hi < x) (ht : (pc : Int) + dflt = (tgt : Int)) (k : G w p l e R s m args below meth c A cells slots Q nL (tgt) L (st) σ) : G w p l e R s m args below meth c A cells slots Q nL pc L (iv x :: st) σ := by
  intro ho H locs ls hP hD hS hl
  exact lv_tableOut C.1 C.2.1 hd (by rw [ti hx]; exact h1) ht (k ho H locs ls hP hD hS hl)
theorem g_look {dflt : Int} {ps : Array (Int × Int)} {len : Nat} {x off : Int} {tgt : Nat} (C : Cx w p s m args c A cc own nL) (hd : decode cc pc = .ok (.lookupswitch dflt ps, len)) (hx : InI x) (hp : (ps.toList.zip (ps.toList.drop 1)).all (fun (a, next) => a.1 < next.1) = true) (hof : Op.lookupswitch.offset ps.toList dflt x = off) (ht : (pc : Int) + off = (tgt : Int)) (k : G w p l e R s m args below meth c A cells slots Q nL (tgt) L (st) σ) : G w p l e R s m args below meth c A cells slots Q nL pc L (iv x :: st) σ := by
  intro ho H locs ls hP hD hS hl
  exact lv_lookup C.1 C.2.1 hd hp (by rw [ti hx]; exact hof) ht (k ho H locs ls hP hD hS hl)
theorem g_iald {k0 : Nat} {n i x : Int} (C : Cx w p s m args c A cc own nL) (hd : decode cc pc = .ok (.iaload, 1)) (ht : tg k0 = 20) (hn : (ln k0 : Int) = n) (hx : rd σ k0 n i = some x) (hi : InI i) (k : InI x → G w p l e R s m args below meth c A cells slots Q nL (pc + 1) L (iv x :: st) σ) : G w p l e R s m args below meth c A cells slots Q nL pc L (iv i :: rv w k0 :: st) σ := by
  intro ho H locs ls hP hD hS hl
  obtain ⟨h0, rfl⟩ := rd_spec hx
  have hk : k0 < NC := tg_lt ht (by decide)
  have g0 := cw_get (w := w) (σ := σ) hk
  rw [ent20 ht] at g0
  obtain ⟨v1, v2⟩ := iv_ix hi h0 hn
  have hf : InI (σ k0 i.toNat) := by
    have := ho k0 i.toNat
    unfold kd at this
    rw [ht] at this
    exact this
  refine va_iald C.1 C.2.1 C.2.2.2.2.2.1 hP k0 0 g0 rfl v1 hd ?_
  rw [v2]
  exact k hf ho H locs ls hP hD hS hl
theorem g_bald {k0 : Nat} {n i x : Int} (C : Cx w p s m args c A cc own nL) (hd : decode cc pc = .ok (.baload, 1)) (ht : tg k0 = 21) (hn : (ln k0 : Int) = n) (hx : rd σ k0 n i = some x) (hi : InI i) (k : InB x → G w p l e R s m args below meth c A cells slots Q nL (pc + 1) L (iv x :: st) σ) : G w p l e R s m args below meth c A cells slots Q nL pc L (iv i :: rv w k0 :: st) σ := by
  intro ho H locs ls hP hD hS hl
  obtain ⟨h0, rfl⟩ := rd_spec hx
  have hk : k0 < NC := tg_lt ht (by decide)
  have g0 := cw_get (w := w) (σ := σ) hk
  rw [ent21 ht] at g0
  obtain ⟨v1, v2⟩ := iv_ix hi h0 hn
  have hf : InB (σ k0 i.toNat) := by
    have := ho k0 i.toNat
    unfold kd at this
    rw [ht] at this
    exact this
  refine va_bald C.1 C.2.1 C.2.2.2.2.2.1 hP k0 1 g0 rfl v1 hd ?_
  rw [v2]
  exact k hf ho H locs ls hP hD hS hl
theorem g_zald {k0 : Nat} {n i x : Int} (C : Cx w p s m args c A cc own nL) (hd : decode cc pc = .ok (.baload, 1)) (ht : tg k0 = 22) (hn : (ln k0 : Int) = n) (hx : rd σ k0 n i = some x) (hi : InI i) (k : InZ x → G w p l e R s m args below meth c A cells slots Q nL (pc + 1) L (iv x :: st) σ) : G w p l e R s m args below meth c A cells slots Q nL pc L (iv i :: rv w k0 :: st) σ := by
  intro ho H locs ls hP hD hS hl
  obtain ⟨h0, rfl⟩ := rd_spec hx
  have hk : k0 < NC := tg_lt ht (by decide)
  have g0 := cw_get (w := w) (σ := σ) hk
  rw [ent22 ht] at g0
  obtain ⟨v1, v2⟩ := iv_ix hi h0 hn
  have hf : InZ (σ k0 i.toNat) := by
    have := ho k0 i.toNat
    unfold kd at this
    rw [ht] at this
    exact this
  refine va_zald C.1 C.2.1 C.2.2.2.2.2.1 hP k0 2 g0 rfl v1 hd ?_
  rw [v2]
  exact k hf ho H locs ls hP hD hS hl
theorem g_lald {k0 : Nat} {n i x : Int} (C : Cx w p s m args c A cc own nL) (hd : decode cc pc = .ok (.laload, 1)) (ht : tg k0 = 23) (hn : (ln k0 : Int) = n) (hx : rd σ k0 n i = some x) (hi : InI i) (k : InL x → G w p l e R s m args below meth c A cells slots Q nL (pc + 1) L (jv x :: st) σ) : G w p l e R s m args below meth c A cells slots Q nL pc L (iv i :: rv w k0 :: st) σ := by
  intro ho H locs ls hP hD hS hl
  obtain ⟨h0, rfl⟩ := rd_spec hx
  have hk : k0 < NC := tg_lt ht (by decide)
  have g0 := cw_get (w := w) (σ := σ) hk
  rw [ent23 ht] at g0
  obtain ⟨v1, v2⟩ := iv_ix hi h0 hn
  have hf : InL (σ k0 i.toNat) := by
    have := ho k0 i.toNat
    unfold kd at this
    rw [ht] at this
    exact this
  refine va_lald C.1 C.2.1 C.2.2.2.2.2.1 hP k0 3 g0 rfl v1 hd ?_
  rw [v2]
  exact k hf ho H locs ls hP hD hS hl
theorem nar_b {x : Int} (h : InB x) : vp_nar .byte (Int32.ofInt x) = Int32.ofInt x := by
  have e : (Int32.ofInt x).toInt8.toInt32 = Int32.ofInt x := by
    rw [← Int32.toInt_inj, Int8.toInt_toInt32, Int32.toInt_toInt8, ti (bI h)]
    exact Int.bmod_eq_of_le (by have := h.1; omega) (by have := h.2; omega)
  exact e
theorem nar_z {x : Int} (h : InZ x) : vp_nar .boolean (Int32.ofInt x) = Int32.ofInt x := by
  rcases h with h | h <;> subst h <;> decide
theorem g_iast {k0 : Nat} {n i x : Int} {σ1 : St} (C : Cx w p s m args c A cc own nL) (hd : decode cc pc = .ok (.iastore, 1)) (ht : tg k0 = 20) (hn : (ln k0 : Int) = n) (hx : wt σ k0 n i x = some σ1) (hi : InI i) (hv : InI x) (k : G w p l e R s m args below meth c A cells slots Q nL (pc + 1) L (st) σ1) : G w p l e R s m args below meth c A cells slots Q nL pc L (iv x :: iv i :: rv w k0 :: st) σ := by
  intro ho H locs ls hP hD hS hl
  obtain ⟨h0, rfl⟩ := wt_spec hx
  have hk : k0 < NC := tg_lt ht (by decide)
  have g0 := cw_get (w := w) (σ := σ) hk
  rw [ent20 ht] at g0
  obtain ⟨v1, v2⟩ := iv_ix hi h0 hn
  have e1 : (cw w σ).set k0 (w.2.1 + k0, ent w (up σ k0 i.toNat x) k0) = cw w (up σ k0 i.toNat x) := cw_set hk (fun k9 h9 => up_ne k9 h9)
  rw [ent20 ht] at e1
  have e2 : (fun j => Int32.ofInt (up σ k0 i.toNat x k0 j)) = upd (fun j => Int32.ofInt (σ k0 j)) i.toNat (Int32.ofInt x) := by rw [upd32]; funext j; rw [up_at]
  rw [e2] at e1
  refine va_iast C.1 C.2.1 C.2.2.2.2.2.1 hP hD hS k0 0 g0 rfl v1 hd (fun H1 locs1 q1 q2 q3 => ?_)
  rw [v2, e1] at q1 q2
  exact k (ok_up ho (by unfold kd; rw [ht]; exact hv)) H1 locs1 ls q1 q2 q3 hl
theorem g_bast {k0 : Nat} {n i x : Int} {σ1 : St} (C : Cx w p s m args c A cc own nL) (hd : decode cc pc = .ok (.bastore, 1)) (ht : tg k0 = 21) (hn : (ln k0 : Int) = n) (hx : wt σ k0 n i x = some σ1) (hi : InI i) (hv : InB x) (k : G w p l e R s m args below meth c A cells slots Q nL (pc + 1) L (st) σ1) : G w p l e R s m args below meth c A cells slots Q nL pc L (iv x :: iv i :: rv w k0 :: st) σ := by
  intro ho H locs ls hP hD hS hl
  obtain ⟨h0, rfl⟩ := wt_spec hx
  have hk : k0 < NC := tg_lt ht (by decide)
  have g0 := cw_get (w := w) (σ := σ) hk
  rw [ent21 ht] at g0
  obtain ⟨v1, v2⟩ := iv_ix hi h0 hn
  have e1 : (cw w σ).set k0 (w.2.1 + k0, ent w (up σ k0 i.toNat x) k0) = cw w (up σ k0 i.toNat x) := cw_set hk (fun k9 h9 => up_ne k9 h9)
  rw [ent21 ht] at e1
  have e2 : (fun j => Int32.ofInt (up σ k0 i.toNat x k0 j)) = upd (fun j => Int32.ofInt (σ k0 j)) i.toNat (Int32.ofInt x) := by rw [upd32]; funext j; rw [up_at]
  rw [e2] at e1
  have e3 : vp_nar .byte (Int32.ofInt x) = Int32.ofInt x := nar_b hv
  refine va_bast C.1 C.2.1 C.2.2.2.2.2.1 hP hD hS k0 1 g0 rfl v1 hd (fun H1 locs1 q1 q2 q3 => ?_)
  rw [v2, e3, e1] at q1 q2
  exact k (ok_up ho (by unfold kd; rw [ht]; exact hv)) H1 locs1 ls q1 q2 q3 hl
theorem g_zast {k0 : Nat} {n i x : Int} {σ1 : St} (C : Cx w p s m args c A cc own nL) (hd : decode cc pc = .ok (.bastore, 1)) (ht : tg k0 = 22) (hn : (ln k0 : Int) = n) (hx : wt σ k0 n i x = some σ1) (hi : InI i) (hv : InZ x) (k : G w p l e R s m args below meth c A cells slots Q nL (pc + 1) L (st) σ1) : G w p l e R s m args below meth c A cells slots Q nL pc L (iv x :: iv i :: rv w k0 :: st) σ := by
  intro ho H locs ls hP hD hS hl
  obtain ⟨h0, rfl⟩ := wt_spec hx
  have hk : k0 < NC := tg_lt ht (by decide)
  have g0 := cw_get (w := w) (σ := σ) hk
  rw [ent22 ht] at g0
  obtain ⟨v1, v2⟩ := iv_ix hi h0 hn
  have e1 : (cw w σ).set k0 (w.2.1 + k0, ent w (up σ k0 i.toNat x) k0) = cw w (up σ k0 i.toNat x) := cw_set hk (fun k9 h9 => up_ne k9 h9)
  rw [ent22 ht] at e1
  have e2 : (fun j => Int32.ofInt (up σ k0 i.toNat x k0 j)) = upd (fun j => Int32.ofInt (σ k0 j)) i.toNat (Int32.ofInt x) := by rw [upd32]; funext j; rw [up_at]
  rw [e2] at e1
  have e3 : vp_nar .boolean (Int32.ofInt x) = Int32.ofInt x := nar_z hv
  refine va_zast C.1 C.2.1 C.2.2.2.2.2.1 hP hD hS k0 2 g0 rfl v1 hd (fun H1 locs1 q1 q2 q3 => ?_)
  rw [v2, e3, e1] at q1 q2
  exact k (ok_up ho (by unfold kd; rw [ht]; exact hv)) H1 locs1 ls q1 q2 q3 hl
theorem g_last {k0 : Nat} {n i x : Int} {σ1 : St} (C : Cx w p s m args c A cc own nL) (hd : decode cc pc = .ok (.lastore, 1)) (ht : tg k0 = 23) (hn : (ln k0 : Int) = n) (hx : wt σ k0 n i x = some σ1) (hi : InI i) (hv : InL x) (k : G w p l e R s m args below meth c A cells slots Q nL (pc + 1) L (st) σ1) : G w p l e R s m args below meth c A cells slots Q nL pc L (jv x :: iv i :: rv w k0 :: st) σ := by
  intro ho H locs ls hP hD hS hl
  obtain ⟨h0, rfl⟩ := wt_spec hx
  have hk : k0 < NC := tg_lt ht (by decide)
  have g0 := cw_get (w := w) (σ := σ) hk
  rw [ent23 ht] at g0
  obtain ⟨v1, v2⟩ := iv_ix hi h0 hn
  have e1 : (cw w σ).set k0 (w.2.1 + k0, ent w (up σ k0 i.toNat x) k0) = cw w (up σ k0 i.toNat x) := cw_set hk (fun k9 h9 => up_ne k9 h9)
  rw [ent23 ht] at e1
  have e2 : (fun j => Int64.ofInt (up σ k0 i.toNat x k0 j)) = vp_updL (fun j => Int64.ofInt (σ k0 j)) i.toNat (Int64.ofInt x) := by rw [upd64]; funext j; rw [up_at]
  rw [e2] at e1
  refine va_last C.1 C.2.1 C.2.2.2.2.2.1 hP hD hS k0 3 g0 rfl v1 hd (fun H1 locs1 q1 q2 q3 => ?_)
  rw [v2, e1] at q1 q2
  exact k (ok_up ho (by unfold kd; rw [ht]; exact hv)) H1 locs1 ls q1 q2 q3 hl
theorem g_aald {k0 r : Nat} {n i : Int} (C : Cx w p s m args c A cc own nL) (hd : decode cc pc = .ok (.aaload, 1)) (ht : tg k0 = 24) (hn : (ln k0 : Int) = n) (hx : rr k0 n i = some r) (hi : InI i) (k : G w p l e R s m args below meth c A cells slots Q nL (pc + 1) L (rv w r :: st) σ) : G w p l e R s m args below meth c A cells slots Q nL pc L (iv i :: rv w k0 :: st) σ := by
  intro ho H locs ls hP hD hS hl
  obtain ⟨h0, rfl⟩ := rr_spec hx
  have hk : k0 < NC := tg_lt ht (by decide)
  have g0 := cw_get (w := w) (σ := σ) hk
  rw [ent24 ht] at g0
  obtain ⟨v1, v2⟩ := iv_ix hi h0 hn
  refine va_aldq C.1 C.2.1 C.2.2.2.2.2.1 hP k0 4 g0 rfl v1 hd ?_
  rw [v2]
  exact k ho H locs ls hP hD hS hl
theorem g_aalI {k0 r : Nat} {n i : Int} (C : Cx w p s m args c A cc own nL) (hd : decode cc pc = .ok (.aaload, 1)) (ht : tg k0 = 25) (hn : (ln k0 : Int) = n) (hx : rr k0 n i = some r) (hi : InI i) (k : G w p l e R s m args below meth c A cells slots Q nL (pc + 1) L (rv w r :: st) σ) : G w p l e R s m args below meth c A cells slots Q nL pc L (iv i :: rv w k0 :: st) σ := by
  intro ho H locs ls hP hD hS hl
  obtain ⟨h0, rfl⟩ := rr_spec hx
  have hk : k0 < NC := tg_lt ht (by decide)
  have g0 := cw_get (w := w) (σ := σ) hk
  rw [ent25 ht] at g0
  obtain ⟨v1, v2⟩ := iv_ix hi h0 hn
  have hlt : (Int32.ofInt i).toNatClampNeg < ln k0 := by rw [v2]; have := h0.1; have := h0.2; omega
  refine W.aald (v := va_rf (some (w.2.1 + rf k0 (Int32.ofInt i).toNatClampNeg))) (ty := .array .int) C.1 C.2.1 (hP k0 _ g0) ((C.2.2.2.2.2.1.2 5 _ rfl).1 (ln k0) (fun j => va_rf (some (w.2.1 + rf k0 j)))) rfl (fun q => by cases q) (by show ¬ (_ < 0 ∨ (arrV _ _ _).slots.size ≤ _); rw [arrV_size]; exact v1) (by show (arrV _ _ _).slots[_]? = _; rw [arrV_read _ _ hlt]) rfl rfl hd ?_
  rw [v2]
  exact k ho H locs ls hP hD hS hl
theorem g_alen {k0 : Nat} {n : Int} {ty : FieldType} {t0 : Nat} (C : Cx w p s m args c A cc own nL) (hd : decode cc pc = .ok (.arraylength, 1)) (hk : k0 < NC) (he : tys w = tys w) (hn : (ln k0 : Int) = n) (ht : (tg k0 = 20 ∧ t0 = 0) ∨ (tg k0 = 24 ∧ t0 = 4)) (k : G w p l e R s m args below meth c A cells slots Q nL (pc + 1) L (iv n :: st) σ) : G w p l e R s m args below meth c A cells slots Q nL pc L (rv w k0 :: st) σ := by
  intro ho H locs ls hP hD hS hl
  have g0 := cw_get (w := w) (σ := σ) hk
  rcases ht with ⟨ht, rfl⟩ | ⟨ht, rfl⟩
  · rw [ent20 ht] at g0
    exact va_alen (v := Int32.ofInt n) C.1 C.2.1 C.2.2.2.2.2.1 hP k0 0 g0 rfl (by rw [← hn]; rfl) hd (k ho H locs ls hP hD hS hl)
  · rw [ent24 ht] at g0
    exact va_alen (v := Int32.ofInt n) C.1 C.2.1 C.2.2.2.2.2.1 hP k0 4 g0 rfl (by rw [← hn]; rfl) hd (k ho H locs ls hP hD hS hl)
theorem g_getI {k0 ci j idx : Nat} (C : Cx w p s m args c A cc own nL) (hd : decode cc pc = .ok (.getfield idx, 3)) (ht : tg k0 = ci) (hc : ci < 13) (hj : j < NXf ci) (hl0 : Cond.fieldLink own idx (RXf ci) ((TXf ci) j).2.1 ((TXf ci) j).2.2.1 ∈ TB) (hdec : ((TXf ci) j).1 = RXf ci) (hq : kof (fty ci j) = 0) (k : InI (σ k0 j) → G w p l e R s m args below meth c A cells slots Q nL (pc + 3) L (iv (σ k0 j) :: st) σ) : G w p l e R s m args below meth c A cells slots Q nL pc L (rv w k0 :: st) σ := by
  intro ho H locs ls hP hD hS hl
  have hk : k0 < NC := tg_lt ht (by omega)
  have g0 := cw_get (w := w) (σ := σ) hk
  rw [entO ht hc] at g0
  obtain ⟨c1, c2, c3, c4⟩ := clOK ci hc
  have hln : ln k0 = NXf ci := by have := lnO k0 hk (by omega); rw [ht] at this; exact this
  have hf : InI (σ k0 j) := by
    have := ho k0 j
    rw [kdO ht hc, hq] at this
    exact this
  refine va_get (v := iv (σ k0 j)) C.1 C.2.1 C.2.2.2.2.1 c2 C.2.2.2.1 C.2.2.2.2.2.1 hP k0 g0 c1 j hj (C.2.2.2.2.1 _ hl0) (fun x hx => by rw [hdec] at hx; exact hx) (by rw [List.getElem?_map, List.getElem?_range (by omega)]; simp [fval, hq]) hd (k hf ho H locs ls hP hD hS hl)
theorem g_getZ {k0 ci j idx : Nat} (C : Cx w p s m args c A cc own nL) (hd : decode cc pc = .ok (.getfield idx, 3)) (ht : tg k0 = ci) (hc : ci < 13) (hj : j < NXf ci) (hl0 : Cond.fieldLink own idx (RXf ci) ((TXf ci) j).2.1 ((TXf ci) j).2.2.1 ∈ TB) (hdec : ((TXf ci) j).1 = RXf ci) (hq : kof (fty ci j) = 1) (k : InZ (σ k0 j) → G w p l e R s m args below meth c A cells slots Q nL (pc + 3) L (iv (σ k0 j) :: st) σ) : G w p l e R s m args below meth c A cells slots Q nL pc L (rv w k0 :: st) σ := by
  intro ho H locs ls hP hD hS hl
  have hk : k0 < NC := tg_lt ht (by omega)
  have g0 := cw_get (w := w) (σ := σ) hk
  rw [entO ht hc] at g0
  obtain ⟨c1, c2, c3, c4⟩ := clOK ci hc
  have hln : ln k0 = NXf ci := by have := lnO k0 hk (by omega); rw [ht] at this; exact this
  have hf : InZ (σ k0 j) := by
    have := ho k0 j
    rw [kdO ht hc, hq] at this
    exact this
  refine va_get (v := iv (σ k0 j)) C.1 C.2.1 C.2.2.2.2.1 c2 C.2.2.2.1 C.2.2.2.2.2.1 hP k0 g0 c1 j hj (C.2.2.2.2.1 _ hl0) (fun x hx => by rw [hdec] at hx; exact hx) (by rw [List.getElem?_map, List.getElem?_range (by omega)]; simp [fval, hq]) hd (k hf ho H locs ls hP hD hS hl)
theorem g_getJ {k0 ci j idx : Nat} (C : Cx w p s m args c A cc own nL) (hd : decode cc pc = .ok (.getfield idx, 3)) (ht : tg k0 = ci) (hc : ci < 13) (hj : j < NXf ci) (hl0 : Cond.fieldLink own idx (RXf ci) ((TXf ci) j).2.1 ((TXf ci) j).2.2.1 ∈ TB) (hdec : ((TXf ci) j).1 = RXf ci) (hq : kof (fty ci j) = 3) (k : InL (σ k0 j) → G w p l e R s m args below meth c A cells slots Q nL (pc + 3) L (jv (σ k0 j) :: st) σ) : G w p l e R s m args below meth c A cells slots Q nL pc L (rv w k0 :: st) σ := by
  intro ho H locs ls hP hD hS hl
  have hk : k0 < NC := tg_lt ht (by omega)
  have g0 := cw_get (w := w) (σ := σ) hk
  rw [entO ht hc] at g0
  obtain ⟨c1, c2, c3, c4⟩ := clOK ci hc
  have hln : ln k0 = NXf ci := by have := lnO k0 hk (by omega); rw [ht] at this; exact this
  have hf : InL (σ k0 j) := by
    have := ho k0 j
    rw [kdO ht hc, hq] at this
    exact this
  refine va_get (v := jv (σ k0 j)) C.1 C.2.1 C.2.2.2.2.1 c2 C.2.2.2.1 C.2.2.2.2.2.1 hP k0 g0 c1 j hj (C.2.2.2.2.1 _ hl0) (fun x hx => by rw [hdec] at hx; exact hx) (by rw [List.getElem?_map, List.getElem?_range (by omega)]; simp [fval, hq]) hd (k hf ho H locs ls hP hD hS hl)
theorem g_getR {k0 ci j idx : Nat} {r : Nat} (C : Cx w p s m args c A cc own nL) (hd : decode cc pc = .ok (.getfield idx, 3)) (ht : tg k0 = ci) (hc : ci < 13) (hj : j < NXf ci) (hl0 : Cond.fieldLink own idx (RXf ci) ((TXf ci) j).2.1 ((TXf ci) j).2.2.1 ∈ TB) (hdec : ((TXf ci) j).1 = RXf ci) (hq : kof (fty ci j) = 4) (hr : rf k0 j = r) (k : G w p l e R s m args below meth c A cells slots Q nL (pc + 3) L (rv w r :: st) σ) : G w p l e R s m args below meth c A cells slots Q nL pc L (rv w k0 :: st) σ := by
  intro ho H locs ls hP hD hS hl
  have hk : k0 < NC := tg_lt ht (by omega)
  have g0 := cw_get (w := w) (σ := σ) hk
  rw [entO ht hc] at g0
  obtain ⟨c1, c2, c3, c4⟩ := clOK ci hc
  have hln : ln k0 = NXf ci := by have := lnO k0 hk (by omega); rw [ht] at this; exact this
  subst hr
  exact va_get (v := rv w (rf k0 j)) C.1 C.2.1 C.2.2.2.2.1 c2 C.2.2.2.1 C.2.2.2.2.2.1 hP k0 g0 c1 j hj (C.2.2.2.2.1 _ hl0) (fun x hx => by rw [hdec] at hx; exact hx) (by rw [List.getElem?_map, List.getElem?_range (by omega)]; simp [fval, hq]) hd (k ho H locs ls hP hD hS hl)
theorem g_putI {k0 ci j idx : Nat} {x : Int} {σ1 : St} (C : Cx w p s m args c A cc own nL) (hd : decode cc pc = .ok (.putfield idx, 3)) (ht : tg k0 = ci) (hc : ci < 13) (hj : j < NXf ci) (hl0 : Cond.fieldLink own idx (RXf ci) ((TXf ci) j).2.1 ((TXf ci) j).2.2.1 ∈ TB) (hdec : ((TXf ci) j).1 = RXf ci) (hq : kof (fty ci j) = 0) (hfin : ((TXf ci) j).2.2.2 = false) (hft : fty ci j = .int) (hs : pt σ k0 j x = some σ1) (hv : InI x) (k : G w p l e R s m args below meth c A cells slots Q nL (pc + 3) L (st) σ1) : G w p l e R s m args below meth c A cells slots Q nL pc L (iv x :: rv w k0 :: st) σ := by
  intro ho H locs ls hP hD hS hl
  cases hs
  have hk : k0 < NC := tg_lt ht (by omega)
  have g0 := cw_get (w := w) (σ := σ) hk
  rw [entO ht hc] at g0
  obtain ⟨c1, c2, c3, c4⟩ := clOK ci hc
  have hln : ln k0 = NXf ci := by have := lnO k0 hk (by omega); rw [ht] at this; exact this
  have e1 : (cw w σ).set k0 (w.2.1 + k0, ent w (up σ k0 j x) k0) = cw w (up σ k0 j x) := cw_set hk (fun k9 h9 => up_ne k9 h9)
  rw [entO ht hc] at e1
  have e2 : ((List.range (ln k0)).map (fval w σ k0 ci)).set j (iv x) = (List.range (ln k0)).map (fval w (up σ k0 j x) k0 ci) := by
    apply List.ext_getElem?
    intro i
    by_cases hi : i = j
    · subst hi
      rw [List.getElem?_set_self (by simp; omega), List.getElem?_map, List.getElem?_range (by omega)]
      simp [fval, hq, up_at]
    · rw [List.getElem?_set_ne (Ne.symm hi), List.getElem?_map, List.getElem?_map]
      by_cases hz : i < ln k0
      · rw [List.getElem?_range hz]
        simp [fval, up_at, hi]
      · rw [List.getElem?_eq_none (by simp; omega)]
        rfl
  rw [← e2] at e1
  refine va_put (v := iv x) (ty := .int) C.1 C.2.1 C.2.2.2.2.1 c2 (fty ci) c3 c4 C.2.2.2.1 C.2.2.2.2.2.1 hP hD hS k0 g0 c1 j hj (C.2.2.2.2.1 _ hl0) (fun x9 hx9 => by rw [hdec] at hx9; exact hx9) hfin (by rw [← hft]; exact c3 j hj) rfl rfl (by simp; omega) hd (fun H1 locs1 q1 q2 q3 => ?_)
  rw [e1] at q1 q2
  exact k (ok_up ho (by rw [kdO ht hc, hq]; exact hv)) H1 locs1 ls q1 q2 q3 hl
theorem g_putZ {k0 ci j idx : Nat} {x : Int} {σ1 : St} (C : Cx w p s m args c A cc own nL) (hd : decode cc pc = .ok (.putfield idx, 3)) (ht : tg k0 = ci) (hc : ci < 13) (hj : j < NXf ci) (hl0 : Cond.fieldLink own idx (RXf ci) ((TXf ci) j).2.1 ((TXf ci) j).2.2.1 ∈ TB) (hdec : ((TXf ci) j).1 = RXf ci) (hq : kof (fty ci j) = 1) (hfin : ((TXf ci) j).2.2.2 = false) (hft : fty ci j = .boolean) (hs : pt σ k0 j x = some σ1) (hv : InZ x) (k : G w p l e R s m args below meth c A cells slots Q nL (pc + 3) L (st) σ1) : G w p l e R s m args below meth c A cells slots Q nL pc L (iv x :: rv w k0 :: st) σ := by
  intro ho H locs ls hP hD hS hl
  cases hs
  have hk : k0 < NC := tg_lt ht (by omega)
  have g0 := cw_get (w := w) (σ := σ) hk
  rw [entO ht hc] at g0
  obtain ⟨c1, c2, c3, c4⟩ := clOK ci hc
  have hln : ln k0 = NXf ci := by have := lnO k0 hk (by omega); rw [ht] at this; exact this
  have e1 : (cw w σ).set k0 (w.2.1 + k0, ent w (up σ k0 j x) k0) = cw w (up σ k0 j x) := cw_set hk (fun k9 h9 => up_ne k9 h9)
  rw [entO ht hc] at e1
  have e2 : ((List.range (ln k0)).map (fval w σ k0 ci)).set j (iv x) = (List.range (ln k0)).map (fval w (up σ k0 j x) k0 ci) := by
    apply List.ext_getElem?
    intro i
    by_cases hi : i = j
    · subst hi
      rw [List.getElem?_set_self (by simp; omega), List.getElem?_map, List.getElem?_range (by omega)]
      simp [fval, hq, up_at]
    · rw [List.getElem?_set_ne (Ne.symm hi), List.getElem?_map, List.getElem?_map]
      by_cases hz : i < ln k0
      · rw [List.getElem?_range hz]
        simp [fval, up_at, hi]
      · rw [List.getElem?_eq_none (by simp; omega)]
        rfl
  rw [← e2] at e1
  refine va_put (v := iv x) (ty := .boolean) C.1 C.2.1 C.2.2.2.2.1 c2 (fty ci) c3 c4 C.2.2.2.1 C.2.2.2.2.2.1 hP hD hS k0 g0 c1 j hj (C.2.2.2.2.1 _ hl0) (fun x9 hx9 => by rw [hdec] at hx9; exact hx9) hfin (by rw [← hft]; exact c3 j hj) (by rcases hv with q | q <;> subst q <;> rfl) (by rcases hv with q | q <;> subst q <;> rfl) (by simp; omega) hd (fun H1 locs1 q1 q2 q3 => ?_)
  rw [e1] at q1 q2
  exact k (ok_up ho (by rw [kdO ht hc, hq]; exact hv)) H1 locs1 ls q1 q2 q3 hl
theorem g_putJ {k0 ci j idx : Nat} {x : Int} {σ1 : St} (C : Cx w p s m args c A cc own nL) (hd : decode cc pc = .ok (.putfield idx, 3)) (ht : tg k0 = ci) (hc : ci < 13) (hj : j < NXf ci) (hl0 : Cond.fieldLink own idx (RXf ci) ((TXf ci) j).2.1 ((TXf ci) j).2.2.1 ∈ TB) (hdec : ((TXf ci) j).1 = RXf ci) (hq : kof (fty ci j) = 3) (hfin : ((TXf ci) j).2.2.2 = false) (hft : fty ci j = .long) (hs : pt σ k0 j x = some σ1) (hv : InL x) (k : G w p l e R s m args below meth c A cells slots Q nL (pc + 3) L (st) σ1) : G w p l e R s m args below meth c A cells slots Q nL pc L (jv x :: rv w k0 :: st) σ := by
  intro ho H locs ls hP hD hS hl
  cases hs
  have hk : k0 < NC := tg_lt ht (by omega)
  have g0 := cw_get (w := w) (σ := σ) hk
  rw [entO ht hc] at g0
  obtain ⟨c1, c2, c3, c4⟩ := clOK ci hc
  have hln : ln k0 = NXf ci := by have := lnO k0 hk (by omega); rw [ht] at this; exact this
  have e1 : (cw w σ).set k0 (w.2.1 + k0, ent w (up σ k0 j x) k0) = cw w (up σ k0 j x) := cw_set hk (fun k9 h9 => up_ne k9 h9)
  rw [entO ht hc] at e1
  have e2 : ((List.range (ln k0)).map (fval w σ k0 ci)).set j (jv x) = (List.range (ln k0)).map (fval w (up σ k0 j x) k0 ci) := by
    apply List.ext_getElem?
    intro i
    by_cases hi : i = j
    · subst hi
      rw [List.getElem?_set_self (by simp; omega), List.getElem?_map, List.getElem?_range (by omega)]
      simp [fval, hq, up_at]
    · rw [List.getElem?_set_ne (Ne.symm hi), List.getElem?_map, List.getElem?_map]
      by_cases hz : i < ln k0
      · rw [List.getElem?_range hz]
        simp [fval, up_at, hi]
      · rw [List.getElem?_eq_none (by simp; omega)]
        rfl
  rw [← e2] at e1
  refine va_put (v := jv x) (ty := .long) C.1 C.2.1 C.2.2.2.2.1 c2 (fty ci) c3 c4 C.2.2.2.1 C.2.2.2.2.2.1 hP hD hS k0 g0 c1 j hj (C.2.2.2.2.1 _ hl0) (fun x9 hx9 => by rw [hdec] at hx9; exact hx9) hfin (by rw [← hft]; exact c3 j hj) rfl rfl (by simp; omega) hd (fun H1 locs1 q1 q2 q3 => ?_)
  rw [e1] at q1 q2
  exact k (ok_up ho (by rw [kdO ht hc, hq]; exact hv)) H1 locs1 ls q1 q2 q3 hl
theorem g_E {x y : Int} (h : x = y) (k : G w p l e R s m args below meth c A cells slots Q nL pc L (iv y :: st) σ) : G w p l e R s m args below meth c A cells slots Q nL pc L (iv x :: st) σ := by subst h; exact k
theorem g_EJ {x y : Int} (h : x = y) (k : G w p l e R s m args below meth c A cells slots Q nL pc L (jv y :: st) σ) : G w p l e R s m args below meth c A cells slots Q nL pc L (jv x :: st) σ := by subst h; exact k
end GR
/-! CONTRACTS in the static world -/
def CtP (w : Wd) (sz : Nat) (σ : St) (av : List Value) : Array Value → State → Prop := va_Pc av (fun U => U.heap.size = sz ∧ ok σ ∧ va_P w.1 vwCl (cw w σ) U.heap ∧ va_K w.1 vwCl (tys w) U ∧ va_D (fun _ => True) (cw w σ) ∧ SX w (Aw w sz) U U.heap)
def CtQ (w : Wd) (sz : Nat) (r : Option Value) (RP : Prop) (σ' : St) : Array Value → State → Outcome → State → Prop := fun _ st oc t => (oc = .returned r ∧ RP ∧ ok σ' ∧ va_P w.1 vwCl (cw w σ') t.heap) ∧ va_F (Aw w sz) st t
/-- method y, from the state σ with the arguments av, answers r (of which RP holds) and leaves σ' -/
def Ct (w : Wd) (l : Launch) (y : MethodName) (ws : List Cond) (rm : Room) (av : List Value) (σ : St) (r : Option Value) (RP : Prop) (σ' : St) : Prop := ∀ sz : Nat, Met l y ws rm (CtP w sz σ av) (CtQ w sz r RP σ') 0 0 (Aw w sz)
theorem cw_of {w : Wd} {σ : St} {k : Nat} {q : Nat × va_E} (h : (cw w σ)[k]? = some q) : k < NC ∧ q = (w.2.1 + k, ent w σ k) := by
  have hk : k < NC := by
    have := (List.getElem?_eq_some_iff.mp h).1
    simpa [cw] using this
  rw [cw_get hk] at h
  exact ⟨hk, (Option.some.inj h).symm⟩
theorem cw_D {w : Wd} {σ σ' : St} {A A' : Nat → Prop} (h : va_D A (cw w σ)) (hA : ∀ k, k < NC → A' (w.2.1 + k)) : va_D A' (cw w σ') := by
  refine ⟨fun i j p q hi hj hpq => ?_, fun k q hk => ?_⟩
  · obtain ⟨i1, rfl⟩ := cw_of hi
    obtain ⟨j1, rfl⟩ := cw_of hj
    have : w.2.1 + i = w.2.1 + j := hpq
    omega
  · obtain ⟨k1, rfl⟩ := cw_of hk
    exact hA k k1
theorem Aw_le {w : Wd} {p : Program} {s : State} {m : MethodId} {args : Array Value} {c : Code} {A : Nat → Prop} {cc : ByteArray} {own : String} {nL : Nat} {H : Heap} {locs : List Loc} (C : Cx w p s m args c A cc own nL) (hS : va_S A s.heap H locs) : ∀ q, Aw w H.size q → A q := fun q hq => by
  refine C.2.2.2.2.2.2.1 q ?_
  rcases hq with h | h
  · exact Or.inl h
  · exact Or.inr (Nat.le_trans hS.1 h)
theorem goodTB {t : Cond} (h : t ∈ TB) : GoodIn TB (t :: TB) := by
  intro u hu
  have hm : u ∈ TB := by
    rcases List.mem_cons.mp hu with q | q
    · rw [q]; exact h
    · exact q
  exact ⟨hm, good_of_word (List.mem_filter.mp hm).2⟩
theorem Ct.of {w : Wd} {l : Launch} {y : MethodName} {cc : ByteArray} {nL : Nat} {ret : Option FieldType} {rm : Room} {av : List Value} {σ σ' : St} {r : Option Value} {RP : Prop} (L0 : List (Option Value)) (hy : plainName y.cls = true) (hlen : (lg_sl av).length ≤ nL) (hL : ∀ (i : Nat) (v : Value), L0[i]? = some (some v) → (i, v) ∈ lv_args 0 av)
    (body : ∀ (p : Program) (e : Env) (s : State) (m : MethodId) (args : Array Value) (below : List Frame) (meth : Method) (c : Code), Cx w p s m args c (Aw w s.heap.size) cc y.cls nL → meth.sig.returnType = ret → meth.locks = false →
      G w p l e rm s m args below meth c (Aw w s.heap.size) 0 0 (MQ below (CtQ w s.heap.size r RP σ') args s 0 0 (Aw w s.heap.size)) nL 0 L0 [] σ) : Ct w l y (Cond.code y cc nL ret :: TB) rm av σ r RP σ' := by
  intro sz
  refine Met.ofW (cc := cc) (maxL := nL) (ret := ret) hy rfl ?_
  intro p e s m args below meth c s₁ B hml hv
  obtain ⟨rfl, hsz, hok, hP, hK, hD, hX⟩ := hv
  subst hsz
  have hts := atoms_spec (ws := Cond.code y cc nL ret :: TB) B.pre
  have hb := body p e s m av.toArray below meth c ⟨B.exec, B.bytes, hml, findClass_of_methodNamed B.named, fun t ht => hts t (List.mem_cons_of_mem _ ht), hK, fun q h => h, hX⟩ B.returns B.notSynchronized hok s.heap []
  have hl := lv_entry av (n := nL) hlen
  rw [lg_entry_eq]
  exact hb _ hP (cw_D hD (fun k hk => Or.inl ⟨k, hk, rfl⟩)) va_S.rf (LR.of hl hL)
section GC
variable {w : Wd} {p : Program} {l : Launch} {e : Env} {R : Room} {s : State} {m : MethodId} {args : Array Value} {below : List Frame} {meth : Method} {c : Code} {A : Nat → Prop} {cells slots : Nat} {Q : State → Prop} {cc : ByteArray} {own : String} {nL pc : Nat} {L : List (Option Value)} {st : List Value} {σ : St}
theorem g_iret {sz : Nat} {r : Option Value} {RP : Prop} {σ' : St} {x : Int} (C : Cx w p s m args c (Aw w sz) cc own nL) (hd : decode cc pc = .ok (.ireturn, 1)) (hz : sz = s.heap.size) (hr : meth.sig.returnType = some .int) (hlk : meth.locks = false) (hv : r = some (iv x)) (hs : σ = σ') (hRP : RP) :
    G w p l e R s m args below meth c (Aw w sz) 0 0 (MQ below (CtQ w sz r RP σ') args s 0 0 (Aw w sz)) nL pc L [iv x] σ := by
  intro ho H locs ls hP hD hS hl
  subst hv
  subst hs
  exact W.iret (v := Int32.ofInt x) C.1 C.2.1 hr (fun t ht hW => ⟨⟨rfl, hRP, ho, by rw [ht]; exact hP⟩, hS.F ht⟩) hS.2.2 hd hlk
theorem g_zret {sz : Nat} {r : Option Value} {RP : Prop} {σ' : St} {x : Int} (C : Cx w p s m args c (Aw w sz) cc own nL) (hd : decode cc pc = .ok (.ireturn, 1)) (hz : sz = s.heap.size) (hr : meth.sig.returnType = some .boolean) (hlk : meth.locks = false) (hv : r = some (iv x)) (hs : σ = σ') (hx : InZ x) (hRP : RP) :
    G w p l e R s m args below meth c (Aw w sz) 0 0 (MQ below (CtQ w sz r RP σ') args s 0 0 (Aw w sz)) nL pc L [iv x] σ := by
  intro ho H locs ls hP hD hS hl
  subst hv
  subst hs
  exact W.zret (v := Int32.ofInt x) (ty := .boolean) C.1 C.2.1 hr (by rcases hx with q | q <;> subst q <;> rfl) (fun t ht hW => ⟨⟨rfl, hRP, ho, by rw [ht]; exact hP⟩, hS.F ht⟩) hS.2.2 hd hlk
theorem g_lret {sz : Nat} {r : Option Value} {RP : Prop} {σ' : St} {x : Int} (C : Cx w p s m args c (Aw w sz) cc own nL) (hd : decode cc pc = .ok (.lreturn, 1)) (hz : sz = s.heap.size) (hr : meth.sig.returnType = some .long) (hlk : meth.locks = false) (hv : r = some (jv x)) (hs : σ = σ') (hRP : RP) :
    G w p l e R s m args below meth c (Aw w sz) 0 0 (MQ below (CtQ w sz r RP σ') args s 0 0 (Aw w sz)) nL pc L [jv x] σ := by
  intro ho H locs ls hP hD hS hl
  subst hv
  subst hs
  exact W.lret (v := Int64.ofInt x) C.1 C.2.1 hr (fun t ht hW => ⟨⟨rfl, hRP, ho, by rw [ht]; exact hP⟩, hS.F ht⟩) hS.2.2 hd hlk
theorem g_vret {sz : Nat} {r : Option Value} {RP : Prop} {σ' : St} (C : Cx w p s m args c (Aw w sz) cc own nL) (hd : decode cc pc = .ok (.return_, 1)) (hz : sz = s.heap.size) (hr : meth.sig.returnType = none) (hlk : meth.locks = false) (hv : r = none) (hs : σ = σ') (hRP : RP) :
    G w p l e R s m args below meth c (Aw w sz) 0 0 (MQ below (CtQ w sz r RP σ') args s 0 0 (Aw w sz)) nL pc L [] σ := by
  intro ho H locs ls hP hD hS hl
  subst hv
  subst hs
  exact W.vret C.1 C.2.1 hr (fun t ht hW => ⟨⟨rfl, hRP, ho, by rw [ht]; exact hP⟩, hS.F ht⟩) hS.2.2 hd hlk
theorem CtP_blind {sz : Nat} {av : List Value} : FrameBlind (CtP w sz σ av) := fun a U g mk q => by
  obtain ⟨q0, q1, q2, qP, qK, qD, qX⟩ := q
  exact ⟨q0, q1, q2, qP, va_K.moved (u := U) (U := U.calling g mk a) (Vm.Alike.refl U.vm) qK, qD, qX.1.moved (U := U.calling g mk a) (Vm.Alike.refl U.vm), vk_R.same (U := U.calling g mk a) rfl qX.2.1, qX.2.2.1.moved (U := U.calling g mk a) (Vm.Alike.refl U.vm), qX.2.2.2.1.moved (U := U.calling g mk a) (Vm.Alike.refl U.vm), va_Nw.same (u := U) (U := U.calling g mk a) rfl rfl qX.2.2.2.2⟩
/-- behind a call -/
theorem g_run {st0 : List Value} {r : Option Value} {RP : Prop} {σ' : St} {a : Array Value} (C : Cx w p s m args c A cc own nL)
    (hr : ok σ → ∀ (H : Heap) (locs : List Loc) (ls : Array Slot), va_P w.1 vwCl (cw w σ) H → va_D A (cw w σ) → va_S A s.heap H locs → ls.size = nL → va_Run p l e R s m args below meth c H locs cells slots 0 0 (F0 m pc ls st0) st (CtQ w H.size r RP σ' a) (Aw w H.size))
    (k : RP → G w p l e R s m args below meth c A cells slots Q nL (pc + 3) L (r.toList ++ st) σ') : G w p l e R s m args below meth c A cells slots Q nL pc L st0 σ := by
  intro ho H locs ls hP hD hS hl T hT X
  have hA : ∀ q, Aw w H.size q → A q := fun q hq => by
    refine C.2.2.2.2.2.2.1 q ?_
    rcases hq with h | h
    · exact Or.inl h
    · exact Or.inr (Nat.le_trans hS.1 h)
  obtain ⟨v, st₀, t, T', Lc, h0, X', hL, e1, e2, ⟨⟨hv, hRP, hok, hP1⟩, hz, hk⟩, stp⟩ := hr ho H locs ls hP hD hS hl.1 T hT X
  cases hv
  rw [h0] at hz hk
  have hP2 : va_P w.1 vwCl (cw w σ') T'.heap := by rw [e1]; exact hP1
  have hS2 : va_S A s.heap T'.heap (locs ++ Lc) := ⟨Nat.le_trans hS.1 (by rw [e1]; exact hz), fun q h1 h2 => by rw [e1, hk q (Nat.lt_of_lt_of_le h1 hS.1) (fun z => h2 (hA q z))]; exact hS.2.1 q h1 h2, fun q hq => by
      rcases List.mem_append.mp hq with h | h
      · exact hS.2.2 q h
      · exact hA _ (hL q h)⟩
  obtain ⟨t2, a1, b1⟩ := k hRP hok T'.heap (locs ++ Lc) ls hP2 (cw_D hD (fun k9 h9 => by have := hD.2 k9 _ (cw_get h9); exact this)) hS2 hl T' rfl X'
  exact ⟨t2, stp t2 a1, b1⟩
/-- what the tables say of a method: its code, that it is an object's own, that its class selects it -/
def MIV (y : MethodName) (bytes : ByteArray) (maxL : Nat) (ret : Option FieldType) (ci n : Nat) : Prop := Cond.code y bytes maxL ret ∈ TB ∧ Cond.instanceMethod y ∈ TB ∧ Cond.selects (RXf ci) y y ∈ TB ∧ Cond.initialized y.cls ∈ TB ∧ y.cls = RXf ci ∧ ci < 13 ∧ (y.cls ≠ "java/lang/invoke/MethodHandle" ∧ y.cls ≠ "java/lang/invoke/VarHandle" ∧ (parseMethodDescriptor y.desc).map (fun d => d.parameters.length) = some n)
def MIS (y : MethodName) (bytes : ByteArray) (maxL : Nat) (ret : Option FieldType) (n : Nat) : Prop := Cond.code y bytes maxL ret ∈ TB ∧ Cond.static y ∈ TB ∧ Cond.initialized y.cls ∈ TB ∧ (y.cls ≠ "java/lang/invoke/MethodHandle" ∧ y.cls ≠ "java/lang/invoke/VarHandle" ∧ (parseMethodDescriptor y.desc).map (fun d => d.parameters.length) = some n)
theorem g_callV {y : MethodName} {bytes : ByteArray} {maxL ci n idx k0 : Nat} {ret : Option FieldType} {rm : Room} {As st0 : List Value} {r : Option Value} {RP : Prop} {σ' : St} (C : Cx w p s m args c A cc own nL) (hd : decode cc pc = .ok (.invokevirtual idx, 3)) (hI : MIV y bytes maxL ret ci n) (hml : Cond.methodLink own idx y ∈ TB)
    (hM : Ct w l y (Cond.code y bytes maxL ret :: TB) rm (rv w k0 :: As) σ r RP σ') (ht : tg k0 = ci) (hn : As.length = n) (hrm : rm.cells = 0 ∧ rm.slots = 0) (hR : rm.frames + 1 ≤ R.frames ∧ 8 + (maxL + 11) + rm.locals ≤ R.locals) (hcs : cells ≤ R.cells ∧ slots ≤ R.slots) (hst : st0 = As.reverse ++ rv w k0 :: st) (hcat : (st.map fun v => v.category).sum ≤ 8)
    (k : RP → G w p l e R s m args below meth c A cells slots Q nL (pc + 3) L (r.toList ++ st) σ') : G w p l e R s m args below meth c A cells slots Q nL pc L st0 σ := by
  obtain ⟨i1, i2, i3, i4, i5, i6, i7⟩ := hI
  have hts := C.2.2.2.2.1
  refine g_run (a := (Value.ref (w.2.1 + k0) :: As).toArray) C (fun ho H locs ls hP hD hS hls => ?_) k
  have hk : k0 < NC := tg_lt ht (by omega)
  have g0 := cw_get (w := w) (σ := σ) hk
  rw [entO ht i6] at g0
  refine va_runV (n := n) (own := own) (C := RXf ci) (Ts := TB) ⟨C.1, C.2.1, C.2.2.1, C.2.2.2.1, hts⟩ (hM H.size) ⟨callB_of (Ts := TB) n hts (goodTB i1) rfl hrm.1 hrm.2 (hts _ i4) (hts _ hml) i7 hR, hts _ i2, hts _ i3⟩ ⟨CtP_blind, va_recv C.2.2.2.2.2.1 hP (clOK ci i6).1 g0, fun U hU hW => ⟨rfl, by rw [hU], ho, by rw [hU]; exact hP, va_K.moved hW.alike C.2.2.2.2.2.1, cw_D hD (fun _ _ => trivial), by rw [hU]; exact C.2.2.2.2.2.2.2.step hS (Aw_le C hS) hW⟩⟩ rfl hn hls hst (lv_room hcat) hd hcs
theorem g_callS {y : MethodName} {bytes : ByteArray} {maxL n idx : Nat} {ret : Option FieldType} {rm : Room} {As st0 : List Value} {r : Option Value} {RP : Prop} {σ' : St} (C : Cx w p s m args c A cc own nL) (hd : decode cc pc = .ok (.invokestatic idx, 3)) (hI : MIS y bytes maxL ret n) (hml : Cond.methodLink own idx y ∈ TB)
    (hM : Ct w l y (Cond.code y bytes maxL ret :: TB) rm As σ r RP σ') (hn : As.length = n) (hrm : rm.cells = 0 ∧ rm.slots = 0) (hR : rm.frames + 1 ≤ R.frames ∧ 8 + (maxL + 11) + rm.locals ≤ R.locals) (hcs : cells ≤ R.cells ∧ slots ≤ R.slots) (hst : st0 = As.reverse ++ st) (hcat : (st.map fun v => v.category).sum ≤ 8)
    (k : RP → G w p l e R s m args below meth c A cells slots Q nL (pc + 3) L (r.toList ++ st) σ') : G w p l e R s m args below meth c A cells slots Q nL pc L st0 σ := by
  obtain ⟨i1, i2, i4, i7⟩ := hI
  have hts := C.2.2.2.2.1
  refine g_run (a := As.toArray) C (fun ho H locs ls hP hD hS hls => ?_) k
  refine va_runS (n := n) (own := own) (Ts := TB) ⟨C.1, C.2.1, C.2.2.1, C.2.2.2.1, hts⟩ (hM H.size) ⟨callB_of (Ts := TB) n hts (goodTB i1) rfl hrm.1 hrm.2 (hts _ i4) (hts _ hml) i7 hR, hts _ i2⟩ ⟨CtP_blind, fun U hU hW => ⟨rfl, by rw [hU], ho, by rw [hU]; exact hP, va_K.moved hW.alike C.2.2.2.2.2.1, cw_D hD (fun _ _ => trivial), by rw [hU]; exact C.2.2.2.2.2.2.2.step hS (Aw_le C hS) hW⟩⟩ rfl hn hls hst (lv_room hcat) hd hcs
theorem g_ldcw {index : Nat} {n : Int} {v : Int32} (C : Cx w p s m args c A cc own nL) (hd : decode cc pc = .ok (.ldc_w index, 3)) (hv : Int32.ofInt n = v) (hc : Cond.constant own index v ∈ TB) (k : G w p l e R s m args below meth c A cells slots Q nL (pc + 3) L (iv n :: st) σ) : G w p l e R s m args below meth c A cells slots Q nL pc L st σ := by
  intro ho H locs ls hP hD hS hl
  subst hv
  exact lv_ldcw C.1 C.2.1 C.2.2.2.1 (C.2.2.2.2.1 _ hc) hd (k ho H locs ls hP hD hS hl)
end GC
abbrev GM (w : Wd) (p : Program) (l : Launch) (e : Env) (R : Room) (s : State) (m : MethodId) (args : Array Value) (below : List Frame) (meth : Method) (c : Code) (r : Option Value) (RP : Prop) (σ' : St) (nL pc : Nat) (L : List (Option Value)) (st : List Value) (σ : St) : Prop := G w p l e R s m args below meth c (Aw w s.heap.size) 0 0 (MQ below (CtQ w s.heap.size r RP σ') args s 0 0 (Aw w s.heap.size)) nL pc L st σ
section GF
variable {w : Wd} {p : Program} {l : Launch} {e : Env} {R : Room} {s : State} {m : MethodId} {args : Array Value} {below : List Frame} {meth : Method} {c : Code} {cc : ByteArray} {own : String} {nL pc : Nat} {L : List (Option Value)} {st : List Value} {σ σ' : St} {x y : Int}
theorem g_iretP (C : Cx w p s m args c (Aw w s.heap.size) cc own nL) (hd : decode cc pc = .ok (.ireturn, 1)) (hr : meth.sig.returnType = some .int) (hlk : meth.locks = false) (h : some (x, σ) = some (y, σ')) (hx : InI x) : GM w p l e R s m args below meth c (some (iv y)) (InI y) σ' nL pc L [iv x] σ := by
  cases h
  exact g_iret C hd rfl hr hlk rfl rfl hx
theorem g_iretU (C : Cx w p s m args c (Aw w s.heap.size) cc own nL) (hd : decode cc pc = .ok (.ireturn, 1)) (hr : meth.sig.returnType = some .int) (hlk : meth.locks = false) (h : some x = some y) (hx : InI x) : GM w p l e R s m args below meth c (some (iv y)) (InI y) σ nL pc L [iv x] σ := by
  cases h
  exact g_iret C hd rfl hr hlk rfl rfl hx
theorem g_zretP (C : Cx w p s m args c (Aw w s.heap.size) cc own nL) (hd : decode cc pc = .ok (.ireturn, 1)) (hr : meth.sig.returnType = some .boolean) (hlk : meth.locks = false) (h : some (x, σ) = some (y, σ')) (hx : InZ x) : GM w p l e R s m args below meth c (some (iv y)) (InZ y) σ' nL pc L [iv x] σ := by
  cases h
  exact g_zret C hd rfl hr hlk rfl rfl hx hx
theorem g_zretU (C : Cx w p s m args c (Aw w s.heap.size) cc own nL) (hd : decode cc pc = .ok (.ireturn, 1)) (hr : meth.sig.returnType = some .boolean) (hlk : meth.locks = false) (h : some x = some y) (hx : InZ x) : GM w p l e R s m args below meth c (some (iv y)) (InZ y) σ nL pc L [iv x] σ := by
  cases h
  exact g_zret C hd rfl hr hlk rfl rfl hx hx
theorem g_lretP (C : Cx w p s m args c (Aw w s.heap.size) cc own nL) (hd : decode cc pc = .ok (.lreturn, 1)) (hr : meth.sig.returnType = some .long) (hlk : meth.locks = false) (h : some (x, σ) = some (y, σ')) (hx : InL x) : GM w p l e R s m args below meth c (some (jv y)) (InL y) σ' nL pc L [jv x] σ := by
  cases h
  exact g_lret C hd rfl hr hlk rfl rfl hx
theorem g_lretU (C : Cx w p s m args c (Aw w s.heap.size) cc own nL) (hd : decode cc pc = .ok (.lreturn, 1)) (hr : meth.sig.returnType = some .long) (hlk : meth.locks = false) (h : some x = some y) (hx : InL x) : GM w p l e R s m args below meth c (some (jv y)) (InL y) σ nL pc L [jv x] σ := by
  cases h
  exact g_lret C hd rfl hr hlk rfl rfl hx
theorem g_vretP (C : Cx w p s m args c (Aw w s.heap.size) cc own nL) (hd : decode cc pc = .ok (.return_, 1)) (hr : meth.sig.returnType = none) (hlk : meth.locks = false) (h : some σ = some σ') : GM w p l e R s m args below meth c none True σ' nL pc L [] σ := by
  cases h
  exact g_vret C hd rfl hr hlk rfl rfl trivial
end GF
def argL : List Value → List (Option Value)
  | [] => []
  | v :: vs => if v.category = 2 then some v :: none :: argL vs else some v :: argL vs
theorem argL_in : ∀ (av : List Value) (b i : Nat) (v : Value), (argL av)[i]? = some (some v) → (b + i, v) ∈ lv_args b av
  | [], b, i, v, h => by simp [argL] at h
  | u :: us, b, i, v, h => by
    unfold argL at h
    unfold lv_args
    by_cases hc : u.category = 2
    · rw [if_pos hc] at h
      rw [if_pos hc]
      match i, h with
      | 0, h => simp at h; rw [h]; exact List.mem_cons_self
      | 1, h => simp at h
      | i + 2, h =>
        have := argL_in us (b + 2) i v (by simpa using h)
        rw [show b + (i + 2) = b + 2 + i by omega]
        exact List.mem_cons_of_mem _ this
    · rw [if_neg hc] at h
      rw [if_neg hc]
      match i, h with
      | 0, h => simp at h; rw [h]; exact List.mem_cons_self
      | i + 1, h =>
        have := argL_in us (b + 1) i v (by simpa using h)
        rw [show b + (i + 1) = b + 1 + i by omega]
        exact List.mem_cons_of_mem _ this
theorem argL_pad (L : List (Option Value)) (n i : Nat) (v : Value) (h : (L ++ List.replicate n none)[i]? = some (some v)) : L[i]? = some (some v) := by
  by_cases hi : i < L.length
  · rwa [List.getElem?_append_left hi] at h
  · rw [List.getElem?_append_right (by omega)] at h
    have := List.eq_of_mem_replicate (List.mem_of_getElem? h)
    cases this
theorem Ct.of2 {w : Wd} {l : Launch} {y : MethodName} {cc : ByteArray} {nL : Nat} {ret : Option FieldType} {rm : Room} {av : List Value} {σ σ' : St} {r : Option Value} {RP : Prop} (L0 : List (Option Value)) (k : Nat) (hL : argL av ++ List.replicate k none = L0) (hy : plainName y.cls = true) (hlen : (lg_sl av).length ≤ nL)
    (body : ∀ (p : Program) (e : Env) (s : State) (m : MethodId) (args : Array Value) (below : List Frame) (meth : Method) (c : Code), Cx w p s m args c (Aw w s.heap.size) cc y.cls nL → meth.sig.returnType = ret → meth.locks = false →
      GM w p l e rm s m args below meth c r RP σ' nL 0 L0 [] σ) : Ct w l y (Cond.code y cc nL ret :: TB) rm av σ r RP σ' := by
  subst hL
  exact Ct.of _ hy hlen (fun i v h => by have := argL_in av 0 i v (argL_pad _ _ _ _ h); rwa [Nat.zero_add] at this) body
section GD
variable {w : Wd} {p : Program} {l : Launch} {e : Env} {R : Room} {s : State} {m : MethodId} {args : Array Value} {below : List Frame} {meth : Method} {c : Code} {A : Nat → Prop} {cells slots : Nat} {Q : State → Prop} {cc : ByteArray} {own : String} {nL pc : Nat} {L : List (Option Value)} {st : List Value} {σ : St}
theorem g_callV0 {y : MethodName} {bytes : ByteArray} {maxL n idx : Nat} {ci : Nat} {k0 : Nat} {ret : Option FieldType} {rm : Room} {As st0 : List Value} {RP : Prop} {σ' : St} (C : Cx w p s m args c A cc own nL) (hd : decode cc pc = .ok (.invokevirtual idx, 3)) (hI : MIV y bytes maxL ret ci n) (hml : Cond.methodLink own idx y ∈ TB)
    (hM : Ct w l y (Cond.code y bytes maxL ret :: TB) rm (rv w k0 :: As) σ none RP σ') (ht : tg k0 = ci) (hn : As.length = n) (hrm : rm.cells = 0 ∧ rm.slots = 0) (hR : rm.frames + 1 ≤ R.frames ∧ 8 + (maxL + 11) + rm.locals ≤ R.locals) (hcs : cells ≤ R.cells ∧ slots ≤ R.slots) (hst : st0 = As.reverse ++ rv w k0 :: st) (hcat : (st.map fun v => v.category).sum ≤ 8)
    (k : RP → G w p l e R s m args below meth c A cells slots Q nL (pc + 3) L st σ') : G w p l e R s m args below meth c A cells slots Q nL pc L st0 σ := g_callV C hd hI hml hM ht hn hrm hR hcs hst hcat k
theorem g_callV1 {y : MethodName} {bytes : ByteArray} {maxL n idx : Nat} {ci : Nat} {k0 : Nat} {ret : Option FieldType} {rm : Room} {As st0 : List Value} {v : Value} {RP : Prop} {σ' : St} (C : Cx w p s m args c A cc own nL) (hd : decode cc pc = .ok (.invokevirtual idx, 3)) (hI : MIV y bytes maxL ret ci n) (hml : Cond.methodLink own idx y ∈ TB)
    (hM : Ct w l y (Cond.code y bytes maxL ret :: TB) rm (rv w k0 :: As) σ (some v) RP σ') (ht : tg k0 = ci) (hn : As.length = n) (hrm : rm.cells = 0 ∧ rm.slots = 0) (hR : rm.frames + 1 ≤ R.frames ∧ 8 + (maxL + 11) + rm.locals ≤ R.locals) (hcs : cells ≤ R.cells ∧ slots ≤ R.slots) (hst : st0 = As.reverse ++ rv w k0 :: st) (hcat : (st.map fun v => v.category).sum ≤ 8)
    (k : RP → G w p l e R s m args below meth c A cells slots Q nL (pc + 3) L (v :: st) σ') : G w p l e R s m args below meth c A cells slots Q nL pc L st0 σ := g_callV C hd hI hml hM ht hn hrm hR hcs hst hcat k
theorem g_callS0 {y : MethodName} {bytes : ByteArray} {maxL n idx : Nat} {ret : Option FieldType} {rm : Room} {As st0 : List Value} {RP : Prop} {σ' : St} (C : Cx w p s m args c A cc own nL) (hd : decode cc pc = .ok (.invokestatic idx, 3)) (hI : MIS y bytes maxL ret n) (hml : Cond.methodLink own idx y ∈ TB)
    (hM : Ct w l y (Cond.code y bytes maxL ret :: TB) rm As σ none RP σ') (hn : As.length = n) (hrm : rm.cells = 0 ∧ rm.slots = 0) (hR : rm.frames + 1 ≤ R.frames ∧ 8 + (maxL + 11) + rm.locals ≤ R.locals) (hcs : cells ≤ R.cells ∧ slots ≤ R.slots) (hst : st0 = As.reverse ++ st) (hcat : (st.map fun v => v.category).sum ≤ 8)
    (k : RP → G w p l e R s m args below meth c A cells slots Q nL (pc + 3) L st σ') : G w p l e R s m args below meth c A cells slots Q nL pc L st0 σ := g_callS C hd hI hml hM hn hrm hR hcs hst hcat k
theorem g_callS1 {y : MethodName} {bytes : ByteArray} {maxL n idx : Nat} {ret : Option FieldType} {rm : Room} {As st0 : List Value} {v : Value} {RP : Prop} {σ' : St} (C : Cx w p s m args c A cc own nL) (hd : decode cc pc = .ok (.invokestatic idx, 3)) (hI : MIS y bytes maxL ret n) (hml : Cond.methodLink own idx y ∈ TB)
    (hM : Ct w l y (Cond.code y bytes maxL ret :: TB) rm As σ (some v) RP σ') (hn : As.length = n) (hrm : rm.cells = 0 ∧ rm.slots = 0) (hR : rm.frames + 1 ≤ R.frames ∧ 8 + (maxL + 11) + rm.locals ≤ R.locals) (hcs : cells ≤ R.cells ∧ slots ≤ R.slots) (hst : st0 = As.reverse ++ st) (hcat : (st.map fun v => v.category).sum ≤ 8)
    (k : RP → G w p l e R s m args below meth c A cells slots Q nL (pc + 3) L (v :: st) σ') : G w p l e R s m args below meth c A cells slots Q nL pc L st0 σ := g_callS C hd hI hml hM hn hrm hR hcs hst hcat k
def vl (x : Int) : Option Int := some x
end GD
def maxI (x y : Int) : Int := if x < y then y else x
def minI (x y : Int) : Int := if y < x then y else x
theorem imax {x y : Int} (hx : InI x) (hy : InI y) : InI (maxI x y) := by unfold maxI; split <;> assumption
theorem imin {x y : Int} (hx : InI x) (hy : InI y) : InI (minI x y) := by unfold minI; split <;> assumption
section GMM
variable {w : Wd} {p : Program} {l : Launch} {e : Env} {R : Room} {s : State} {m : MethodId} {args : Array Value} {below : List Frame} {meth : Method} {c : Code} {A : Nat → Prop} {cells slots : Nat} {Q : State → Prop} {cc : ByteArray} {own : String} {nL pc : Nat} {L : List (Option Value)} {st : List Value} {σ : St}
theorem g_mmax {x y : Int} {idx : Nat} (C : Cx w p s m args c A cc own nL) (hd : decode cc pc = .ok (.invokestatic idx, 3)) (hx : InI x) (hy : InI y) (hml : Cond.methodLink own idx yJ9_max_7cf53 ∈ TB) (hR : 1 ≤ R.frames ∧ (st.map fun v => v.category).sum + 13 ≤ R.locals) (hcs : cells ≤ R.cells ∧ slots ≤ R.slots)
    (k : G w p l e R s m args below meth c A cells slots Q nL (pc + 3) L (iv (maxI x y) :: st) σ) : G w p l e R s m args below meth c A cells slots Q nL pc L (iv y :: iv x :: st) σ := by
  intro ho H locs ls hP hD hS hl
  have k9 := k ho H locs ls hP hD hS hl
  have hts := C.2.2.2.2.1
  have e9 : iv (maxI x y) = .int (if Int32.ofInt x < Int32.ofInt y then Int32.ofInt y else Int32.ofInt x) := by
    unfold maxI iv
    by_cases q : x < y
    · rw [if_pos q, if_pos ((iv_lt hx hy).mpr q)]
    · rw [if_neg q, if_neg (fun z => q ((iv_lt hx hy).mp z))]
  rw [e9] at k9
  exact va_mmax C.1 C.2.1 (C.2.2.1.trans hl.1.symm) C.2.2.2.1 (hts _ hml) (hts _ st_J9_max_7cf53) (hts _ ini_J9) (hts _ cd_J9_max_7cf53) hR.1 hR.2 hcs.1 hcs.2 hd k9
theorem g_mmin {x y : Int} {idx : Nat} (C : Cx w p s m args c A cc own nL) (hd : decode cc pc = .ok (.invokestatic idx, 3)) (hx : InI x) (hy : InI y) (hml : Cond.methodLink own idx yJ9_min_7cf53 ∈ TB) (hR : 1 ≤ R.frames ∧ (st.map fun v => v.category).sum + 13 ≤ R.locals) (hcs : cells ≤ R.cells ∧ slots ≤ R.slots)
    (k : G w p l e R s m args below meth c A cells slots Q nL (pc + 3) L (iv (minI x y) :: st) σ) : G w p l e R s m args below meth c A cells slots Q nL pc L (iv y :: iv x :: st) σ := by
  intro ho H locs ls hP hD hS hl
  have k9 := k ho H locs ls hP hD hS hl
  have hts := C.2.2.2.2.1
  have e9 : iv (minI x y) = .int (if Int32.ofInt y < Int32.ofInt x then Int32.ofInt y else Int32.ofInt x) := by
    unfold minI iv
    by_cases q : y < x
    · rw [if_pos q, if_pos ((iv_lt hy hx).mpr q)]
    · rw [if_neg q, if_neg (fun z => q ((iv_lt hy hx).mp z))]
  rw [e9] at k9
  exact va_mmin C.1 C.2.1 (C.2.2.1.trans hl.1.symm) C.2.2.2.1 (hts _ hml) (hts _ st_J9_min_7cf53) (hts _ ini_J9) (hts _ cd_J9_min_7cf53) hR.1 hR.2 hcs.1 hcs.2 hd k9
end GMM
section GT
variable {w : Wd} {p : Program} {l : Launch} {e : Env} {R : Room} {s : State} {m : MethodId} {args : Array Value} {below : List Frame} {meth : Method} {c : Code} {A : Nat → Prop} {cells slots : Nat} {Q : State → Prop} {cc : ByteArray} {own : String} {nL pc : Nat} {L : List (Option Value)} {st : List Value} {σ : St}
theorem g_nret {RP : Prop} {x : Int} {ty : FieldType} (C : Cx w p s m args c (Aw w s.heap.size) cc own nL) (hd : decode cc pc = .ok (.ireturn, 1)) (hr : meth.sig.returnType = some ty) (hlk : meth.locks = false) (hn : narrow ty (.int (Int32.ofInt x)) = .int (Int32.ofInt x)) (hRP : RP) :
    GM w p l e R s m args below meth c (some (iv x)) RP σ nL pc L [iv x] σ := by
  intro ho H locs ls hP hD hS hl
  exact W.zret (v := Int32.ofInt x) (ty := ty) C.1 C.2.1 hr hn (fun t ht hW => ⟨⟨rfl, hRP, ho, by rw [ht]; exact hP⟩, hS.F ht⟩) hS.2.2 hd hlk
theorem g_vret0 (C : Cx w p s m args c (Aw w s.heap.size) cc own nL) (hd : decode cc pc = .ok (.return_, 1)) (hr : meth.sig.returnType = none) (hlk : meth.locks = false) :
    GM w p l e R s m args below meth c none True σ nL pc L [] σ := by
  intro ho H locs ls hP hD hS hl
  exact W.vret C.1 C.2.1 hr (fun t ht hW => ⟨⟨rfl, trivial, ho, by rw [ht]; exact hP⟩, hS.F ht⟩) hS.2.2 hd hlk
def MIT (y : MethodName) (bytes : ByteArray) (maxL : Nat) (ret : Option FieldType) (n : Nat) : Prop := Cond.code y bytes maxL ret ∈ TB ∧ Cond.instanceMethod y ∈ TB ∧ Cond.selects "java/lang/String" y y ∈ TB ∧ Cond.initialized y.cls ∈ TB ∧ (y.cls ≠ "java/lang/invoke/MethodHandle" ∧ y.cls ≠ "java/lang/invoke/VarHandle" ∧ (parseMethodDescriptor y.desc).map (fun d => d.parameters.length) = some n)
theorem g_callT {y : MethodName} {bytes : ByteArray} {maxL n idx : Nat} {ret : Option FieldType} {rm : Room} {As st0 : List Value} {v : Value} {RP : Prop} {σ' : St} (C : Cx w p s m args c A cc own nL) (hd : decode cc pc = .ok (.invokevirtual idx, 3)) (hI : MIT y bytes maxL ret n) (hml : Cond.methodLink own idx y ∈ TB)
    (hM : Ct w l y (Cond.code y bytes maxL ret :: TB) rm (.ref (w.2.2 100) :: As) σ (some v) RP σ') (hn : As.length = n) (hrm : rm.cells = 0 ∧ rm.slots = 0) (hR : rm.frames + 1 ≤ R.frames ∧ 8 + (maxL + 11) + rm.locals ≤ R.locals) (hcs : cells ≤ R.cells ∧ slots ≤ R.slots) (hst : st0 = As.reverse ++ .ref (w.2.2 100) :: st) (hcat : (st.map fun v => v.category).sum ≤ 8)
    (k : RP → G w p l e R s m args below meth c A cells slots Q nL (pc + 3) L (v :: st) σ') : G w p l e R s m args below meth c A cells slots Q nL pc L st0 σ := by
  obtain ⟨i1, i2, i3, i4, i7⟩ := hI
  have hts := C.2.2.2.2.1
  refine g_run (r := some v) (a := (Value.ref (w.2.2 100) :: As).toArray) C (fun ho H locs ls hP hD hS hls => ?_) k
  refine va_runV (n := n) (own := own) (C := "java/lang/String") (Ts := TB) ⟨C.1, C.2.1, C.2.2.1, C.2.2.2.1, hts⟩ (hM H.size) ⟨callB_of (Ts := TB) n hts (goodTB i1) rfl hrm.1 hrm.2 (hts _ i4) (hts _ hml) i7 hR, hts _ i2, hts _ i3⟩ ⟨CtP_blind, vk_recv (adK := fun _ => w.2.2 100) (adV := fun _ => w.2.2 101) (i := 0) C.2.2.2.2.2.2.2.1 (Nat.lt_succ_self 0) hS, fun U hU hW => ⟨rfl, by rw [hU], ho, by rw [hU]; exact hP, va_K.moved hW.alike C.2.2.2.2.2.1, cw_D hD (fun _ _ => trivial), by rw [hU]; exact C.2.2.2.2.2.2.2.step hS (Aw_le C hS) hW⟩⟩ rfl hn hls hst (lv_room hcat) hd hcs
end GT
section GN
variable {w : Wd} {p : Program} {l : Launch} {e : Env} {R : Room} {s : State} {m : MethodId} {args : Array Value} {below : List Frame} {meth : Method} {c : Code} {A : Nat → Prop} {cells slots : Nat} {Q : State → Prop} {cc : ByteArray} {own : String} {nL pc : Nat} {L : List (Option Value)} {st : List Value} {σ : St}
theorem g_callN1 {bytes : ByteArray} {maxL n : Nat} {ret : Option FieldType} {rm : Room} {As st0 : List Value} {v : Value} {RP : Prop} {σ' : St} (C : Cx w p s m args c A cc own nL) (ho1 : own = RX6) (hd : decode cc pc = .ok (.invokestatic 75, 3)) (hI : MIS yX11_isTick bytes maxL ret n)
    (hM : Ct w l yX11_isTick (Cond.code yX11_isTick bytes maxL ret :: TB) rm As σ (some v) RP σ') (hn : As.length = n) (hrm : rm.cells = 0 ∧ rm.slots = 0) (hR : rm.frames + 1 ≤ R.frames ∧ 8 + (maxL + 11) + rm.locals ≤ R.locals) (hcs : cells ≤ R.cells ∧ slots ≤ R.slots) (hst : st0 = As.reverse ++ st) (hcat : (st.map fun v => v.category).sum ≤ 8)
    (k : RP → G w p l e R s m args below meth c A cells slots Q nL (pc + 3) L (v :: st) σ') : G w p l e R s m args below meth c A cells slots Q nL pc L st0 σ := by
  subst ho1
  obtain ⟨i1, i2, i4, i7⟩ := hI
  have hts := C.2.2.2.2.1
  refine g_run (r := some v) (a := As.toArray) C (fun ho H locs ls hP hD hS hls => ?_) k
  refine va_runSN (n := n) (own := RX6) (host := RX11) (Ts := TB) ⟨C.1, C.2.1, C.2.2.1, C.2.2.2.1, hts⟩ (hM H.size) ⟨va_cnB (Ts := TB) n hts (goodTB i1) rfl hrm.1 hrm.2 C.2.2.2.2.2.2.2.2.2.2.2 (hts _ i4) i7 hR, hts _ i2, trivial⟩ ⟨CtP_blind, fun U hU hW => ⟨rfl, by rw [hU], ho, by rw [hU]; exact hP, va_K.moved hW.alike C.2.2.2.2.2.1, cw_D hD (fun _ _ => trivial), by rw [hU]; exact C.2.2.2.2.2.2.2.step hS (Aw_le C hS) hW⟩⟩ rfl hn hls hst (lv_room hcat) hd hcs
end GN
