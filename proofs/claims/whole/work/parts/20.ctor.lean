/-! THE WORLD AS IT IS MADE: n cells are there, t references and m numbers are written (each slot's reference once, in a fixed order) -/
def RO : List (Nat × Nat) := [(1, 0), (1, 1), (1, 2), (5, 0), (5, 1), (5, 2), (5, 3), (5, 4), (5, 5), (5, 6), (5, 7), (5, 8), (5, 9), (1, 3), (16, 1), (16, 2), (16, 3), (16, 4), (16, 5), (22, 0), (22, 1), (22, 2), (22, 3), (22, 4), (22, 5), (22, 6), (30, 0), (30, 1), (30, 2), (30, 3), (30, 4), (30, 7), (30, 8), (40, 0), (40, 1), (39, 3), (39, 13), (39, 14), (39, 15), (38, 0), (47, 0), (47, 1), (46, 3), (46, 13), (46, 14), (46, 15), (38, 1), (54, 0), (54, 1), (53, 3), (53, 13), (53, 14), (53, 15), (38, 2), (61, 0), (61, 1), (60, 3), (60, 13), (60, 14), (60, 15), (38, 3), (68, 0), (68, 1), (67, 3), (67, 13), (67, 14), (67, 15), (38, 4), (75, 0), (75, 1), (74, 3), (74, 13), (74, 14), (74, 15), (38, 5), (82, 0), (82, 1), (81, 3), (81, 13), (81, 14), (81, 15), (38, 6), (89, 0), (89, 1), (88, 3), (88, 13), (88, 14), (88, 15), (38, 7), (96, 0), (96, 1), (96, 2), (96, 3), (96, 4), (96, 5), (96, 6), (96, 7), (95, 0), (105, 0), (105, 1), (105, 2), (105, 3), (105, 4), (105, 5), (105, 6), (105, 7), (95, 1), (95, 4), (95, 5), (95, 6), (95, 7), (95, 2), (95, 3), (0, 0), (0, 1), (0, 2), (119, 0), (119, 1), (119, 2), (119, 3), (119, 4), (119, 5), (119, 6), (118, 0), (118, 4), (118, 5), (118, 3), (0, 3), (0, 4), (0, 5), (129, 2), (129, 3), (132, 0), (132, 1), (132, 2), (132, 3), (132, 4), (132, 5), (132, 6), (132, 7), (129, 4), (129, 5), (142, 0), (142, 1), (142, 2), (142, 3), (142, 4), (142, 5), (142, 6), (142, 7), (142, 8), (142, 9), (129, 11), (129, 7), (129, 8), (129, 9), (129, 10), (0, 7), (0, 8), (153, 0), (155, 0), (155, 1), (155, 2), (155, 3), (155, 4), (155, 5), (155, 6), (155, 7), (153, 3), (153, 1), (153, 2), (0, 9), (164, 0), (164, 1), (164, 2), (164, 4), (164, 5), (0, 10), (170, 1), (170, 3), (170, 5), (170, 6), (170, 7), (170, 8), (170, 9), (170, 19), (170, 20), (170, 21), (170, 23), (170, 24), (170, 25), (170, 26), (170, 28), (170, 29), (170, 32), (170, 33), (170, 34), (170, 36), (170, 37), (170, 38), (170, 39), (170, 40), (170, 42), (170, 43), (170, 44), (170, 45), (170, 46), (170, 47), (170, 49), (170, 50), (170, 51), (170, 52), (170, 53), (170, 54), (170, 55), (170, 56), (170, 57), (170, 59), (170, 61), (170, 62), (170, 63), (170, 64), (170, 65), (170, 66), (170, 67), (170, 68), (170, 69), (170, 70), (170, 75), (170, 76), (170, 77), (170, 78), (170, 79), (170, 80), (170, 81), (170, 83), (170, 84), (170, 85), (170, 86), (170, 87), (170, 88)]
def WLs : List (Nat × Nat × Int) := [(6, 0, 0), (6, 1, -1), (6, 2, -1), (6, 3, -1), (6, 4, -1), (6, 5, -1), (6, 6, -1), (6, 7, -1), (6, 8, -1), (6, 9, -1), (7, 0, -1), (7, 1, 0), (7, 2, -1), (7, 3, -1), (7, 4, -1), (7, 5, -1), (7, 6, -1), (7, 7, -1), (7, 8, -1), (7, 9, -1), (8, 0, -1), (8, 1, -1), (8, 2, 0), (8, 3, -1), (8, 4, -1), (8, 5, -1), (8, 6, -1), (8, 7, -1), (8, 8, -1), (8, 9, -1), (9, 0, -1), (9, 1, -1), (9, 2, -1), (9, 3, 0), (9, 4, -1), (9, 5, -1), (9, 6, -1), (9, 7, -1), (9, 8, -1), (9, 9, -1), (10, 0, -1), (10, 1, -1), (10, 2, -1), (10, 3, -1), (10, 4, 0), (10, 5, -1), (10, 6, -1), (10, 7, -1), (10, 8, -1), (10, 9, -1), (11, 0, -1), (11, 1, -1), (11, 2, -1), (11, 3, -1), (11, 4, -1), (11, 5, 0), (11, 6, -1), (11, 7, -1), (11, 8, -1), (11, 9, -1), (12, 0, -1), (12, 1, -1), (12, 2, -1), (12, 3, -1), (12, 4, -1), (12, 5, -1), (12, 6, 0), (12, 7, -1), (12, 8, -1), (12, 9, -1), (13, 0, -1), (13, 1, -1), (13, 2, -1), (13, 3, -1), (13, 4, -1), (13, 5, -1), (13, 6, -1), (13, 7, 0), (13, 8, -1), (13, 9, -1), (14, 0, -1), (14, 1, -1), (14, 2, -1), (14, 3, -1), (14, 4, -1), (14, 5, -1), (14, 6, -1), (14, 7, -1), (14, 8, 0), (14, 9, -1), (15, 0, -1), (15, 1, -1), (15, 2, -1), (15, 3, -1), (15, 4, -1), (15, 5, -1), (15, 6, -1), (15, 7, -1), (15, 8, -1), (15, 9, 0), (39, 2, -1), (46, 2, -1), (53, 2, -1), (60, 2, -1), (67, 2, -1), (74, 2, -1), (81, 2, -1), (88, 2, -1), (166, 0, -1), (166, 1, -1), (166, 2, -1), (166, 3, -1), (166, 4, -1), (166, 5, -1), (166, 6, -1), (166, 7, -1), (170, 16, -1), (170, 48, -1), (170, 74, -1), (170, 82, -1), (177, 0, 70097), (177, 1, 4027), (177, 2, 204), (177, 3, 453701), (177, 4, 400557), (177, 5, 257105), (177, 6, 459707), (177, 7, 12584543), (177, 8, 6477035), (177, 9, 394691), (177, 10, 55175), (177, 11, 397641), (177, 12, 582248), (177, 13, 123), (177, 14, 247552), (177, 15, 249), (177, 16, 107681), (177, 17, 259679), (177, 18, 4797), (177, 19, 10631), (177, 20, 8534556), (177, 21, 6132988), (177, 22, 5878), (177, 23, 459818), (177, 24, 237470), (177, 25, 8935713994)]
def qas : List (List Nat) := [[113, 114, 115, 127, 128, 129, 0, 157, 158, 171, 177], [0, 1, 2, 13], [], [], [], [3, 4, 5, 6, 7, 8, 9, 10, 11, 12], [], [], [], [], [], [], [], [], [], [], [0, 14, 15, 16, 17, 18], [], [], [], [], [], [19, 20, 21, 22, 23, 24, 25], [], [], [], [], [], [], [], [26, 27, 28, 29, 30, 0, 0, 31, 32], [], [], [], [], [], [], [], [39, 46, 53, 60, 67, 74, 81, 88], [0, 0, 0, 35, 0, 0, 0, 0, 0, 0, 0, 0, 0, 36, 37, 38], [33, 34], [], [], [], [], [], [0, 0, 0, 42, 0, 0, 0, 0, 0, 0, 0, 0, 0, 43, 44, 45], [40, 41], [], [], [], [], [], [0, 0, 0, 49, 0, 0, 0, 0, 0, 0, 0, 0, 0, 50, 51, 52], [47, 48], [], [], [], [], [], [0, 0, 0, 56, 0, 0, 0, 0, 0, 0, 0, 0, 0, 57, 58, 59], [54, 55], [], [], [], [], [], [0, 0, 0, 63, 0, 0, 0, 0, 0, 0, 0, 0, 0, 64, 65, 66], [61, 62], [], [], [], [], [], [0, 0, 0, 70, 0, 0, 0, 0, 0, 0, 0, 0, 0, 71, 72, 73], [68, 69], [], [], [], [], [], [0, 0, 0, 77, 0, 0, 0, 0, 0, 0, 0, 0, 0, 78, 79, 80], [75, 76], [], [], [], [], [], [0, 0, 0, 84, 0, 0, 0, 0, 0, 0, 0, 0, 0, 85, 86, 87], [82, 83], [], [], [], [], [], [97, 106, 111, 112, 107, 108, 109, 110], [89, 90, 91, 92, 93, 94, 95, 96], [], [], [], [], [], [], [], [], [98, 99, 100, 101, 102, 103, 104, 105], [], [], [], [], [], [], [], [], [], [], [], [], [123, 0, 0, 126, 124, 125], [116, 117, 118, 119, 120, 121, 122], [], [], [], [], [], [], [], [], [], [0, 0, 130, 131, 140, 141, 0, 153, 154, 155, 156, 152], [], [], [132, 133, 134, 135, 136, 137, 138, 139], [], [], [], [], [], [], [], [], [], [142, 143, 144, 145, 146, 147, 148, 149, 150, 151], [], [], [], [], [], [], [], [], [], [], [159, 169, 170, 168], [], [160, 161, 162, 163, 164, 165, 166, 167], [], [], [], [], [], [], [], [], [172, 173, 174, 0, 175, 176], [], [], [], [], [], [0, 178, 0, 179, 0, 180, 181, 182, 183, 184, 0, 0, 0, 0, 0, 0, 0, 0, 0, 185, 186, 187, 0, 188, 189, 190, 191, 0, 192, 193, 0, 0, 194, 195, 196, 0, 197, 198, 199, 200, 201, 0, 202, 203, 204, 205, 206, 207, 0, 208, 209, 210, 211, 212, 213, 214, 215, 216, 0, 217, 0, 218, 219, 220, 221, 222, 223, 224, 225, 226, 227, 0, 0, 0, 0, 228, 229, 230, 231, 232, 233, 234, 0, 235, 236, 237, 238, 239, 240], [], [], [], [], [], [], [], [], [], [], [], [], [], [], [], [], [], [], [], [], [], [], [], [], [], [], [], [], [], [], [], [], [], [], [], [], [], [], [], [], [], [], [], [], [], [], [], [], [], [], [], [], [], [], [], [], [], [], [], [], [], [], [], []]
def qa (k j : Nat) : Nat := (qas.getD k []).getD j 0
def lnR (k : Nat) : Nat := match tg k with
  | 20 => 0
  | 21 => 0
  | 22 => 0
  | 23 => 0
  | _ => ln k
def isRf (k j : Nat) : Bool := decide (j < lnR k) && (tg k == 24 || tg k == 25 || kof (fty (tg k) j) == 4)
theorem qa_ok0 : ∀ k, k < NC → ∀ j, j < lnR k → isRf k j = true → RO[qa k j]? = some (k, j) := by decide +kernel
theorem qa_ok {k j : Nat} (hk : k < NC) (h : isRf k j = true) : RO[qa k j]? = some (k, j) := by
  have h1 : j < lnR k := by
    unfold isRf at h
    rw [Bool.and_eq_true] at h
    exact of_decide_eq_true h.1
  exact qa_ok0 k hk j h1 h
def SG (m : Nat) : St := (WLs.take m).foldl (fun σ e => up σ e.1 e.2.1 e.2.2) (fun _ _ => 0)
theorem SG_succ {m k i : Nat} {x : Int} (h : WLs[m]? = some (k, i, x)) : SG (m + 1) = up (SG m) k i x := by
  unfold SG
  rw [List.take_add_one, h]
  simp
def chkK : Nat → Int → Bool
  | 0, x => decide (-2147483648 ≤ x) && decide (x ≤ 2147483647)
  | 1, x => decide (x = 0) || decide (x = 1)
  | 2, x => decide (-128 ≤ x) && decide (x ≤ 127)
  | 3, x => decide (-9223372036854775808 ≤ x) && decide (x ≤ 9223372036854775807)
  | _, _ => true
theorem chkK_ok {n : Nat} {x : Int} (h : chkK n x = true) : inK n x := by
  match n, h with
  | 0, h => exact (by simpa [chkK] using h : InI x)
  | 1, h => exact (by simpa [chkK] using h : InZ x)
  | 2, h => exact (by simpa [chkK] using h : InB x)
  | 3, h => exact (by simpa [chkK] using h : InL x)
  | n + 4, h => trivial
theorem WL_ok : ∀ e ∈ WLs, chkK (kd e.1 e.2.1) e.2.2 = true := by decide +kernel
theorem okSG : ∀ m, ok (SG m) := by
  intro m
  induction m with
  | zero =>
    intro k j
    show inK (kd k j) 0
    generalize kd k j = n
    match n with
    | 0 => exact (by decide : InI 0)
    | 1 => exact Or.inl rfl
    | 2 => exact (by decide : InB 0)
    | 3 => exact (by decide : InL 0)
    | n + 4 => trivial
  | succ m ih =>
    cases h : WLs[m]? with
    | none =>
      have : SG (m + 1) = SG m := by
        unfold SG
        rw [List.take_add_one, h]
        simp
      rw [this]
      exact ih
    | some e =>
      obtain ⟨k, i, x⟩ := e
      rw [SG_succ h]
      exact ok_up ih (chkK_ok (WL_ok _ (List.mem_of_getElem? h)))
def rfp (t k j : Nat) : Option Nat := if qa k j < t then some (rf k j) else none
def fvalP (w : Wd) (t m k ci j : Nat) : Value := match kof (fty ci j) with
  | 3 => jv (SG m k j)
  | 4 => va_rf ((rfp t k j).map (fun x => w.2.1 + x))
  | _ => iv (SG m k j)
def rarr (w : Wd) (t k : Nat) : Nat → Option Nat := fun j => if j < ln k then (rfp t k j).map (fun x => w.2.1 + x) else none
def entP (w : Wd) (t m k : Nat) : va_E := match tg k with
  | 20 => .inl (w.2.2 0, ln k, .inl (fun j => Int32.ofInt (SG m k j)))
  | 21 => .inl (w.2.2 1, ln k, .inl (fun j => Int32.ofInt (SG m k j)))
  | 22 => .inl (w.2.2 2, ln k, .inl (fun j => Int32.ofInt (SG m k j)))
  | 23 => .inl (w.2.2 3, ln k, .inr (.inl (fun j => Int64.ofInt (SG m k j))))
  | 24 => .inl (w.2.2 4, ln k, .inr (.inr (.inr (.inr (rarr w t k)))))
  | 25 => .inl (w.2.2 5, ln k, .inr (.inr (.inr (.inr (rarr w t k)))))
  | ci => .inr (ci, (List.range (ln k)).map (fvalP w t m k ci))
def cwP (w : Wd) (n t m : Nat) : va_W := (List.range n).map (fun k => (w.2.1 + k, entP w t m k))
theorem cwP_get {w : Wd} {n t m k : Nat} (h : k < n) : (cwP w n t m)[k]? = some (w.2.1 + k, entP w t m k) := by simp [cwP, h]
theorem cwP_of {w : Wd} {n t m k : Nat} {q : Nat × va_E} (h : (cwP w n t m)[k]? = some q) : k < n ∧ q = (w.2.1 + k, entP w t m k) := by
  have hk : k < n := by
    have := (List.getElem?_eq_some_iff.mp h).1
    simpa [cwP] using this
  rw [cwP_get hk] at h
  exact ⟨hk, (Option.some.inj h).symm⟩
theorem cwP_D {w : Wd} {n t m : Nat} {A : Nat → Prop} (hA : ∀ q, w.2.1 ≤ q → A q) : va_D A (cwP w n t m) := by
  refine ⟨fun i j p q hi hj hpq => ?_, fun k q hk => ?_⟩
  · obtain ⟨i1, rfl⟩ := cwP_of hi
    obtain ⟨j1, rfl⟩ := cwP_of hj
    have : w.2.1 + i = w.2.1 + j := hpq
    omega
  · obtain ⟨k1, rfl⟩ := cwP_of hk
    exact hA _ (Nat.le_add_right _ _)
theorem cwP_set {w : Wd} {n t m t' m' k : Nat} (h : k < n) (hk : ∀ k', k' < n → k' ≠ k → entP w t' m' k' = entP w t m k') : (cwP w n t m).set k (w.2.1 + k, entP w t' m' k) = cwP w n t' m' := by
  apply List.ext_getElem?
  intro i
  by_cases hi : i = k
  · subst hi
    rw [List.getElem?_set_self (by simp [cwP]; exact h), cwP_get h]
  · rw [List.getElem?_set_ne (Ne.symm hi)]
    by_cases hn : i < n
    · rw [cwP_get hn, cwP_get hn, hk i hn hi]
    · rw [List.getElem?_eq_none (by simp [cwP]; omega), List.getElem?_eq_none (by simp [cwP]; omega)]
theorem ep20 {w : Wd} {t m k : Nat} (h : tg k = 20) : entP w t m k = .inl (w.2.2 0, ln k, .inl (fun j => Int32.ofInt (SG m k j))) := by simp [entP, h]
theorem ep21 {w : Wd} {t m k : Nat} (h : tg k = 21) : entP w t m k = .inl (w.2.2 1, ln k, .inl (fun j => Int32.ofInt (SG m k j))) := by simp [entP, h]
theorem ep22 {w : Wd} {t m k : Nat} (h : tg k = 22) : entP w t m k = .inl (w.2.2 2, ln k, .inl (fun j => Int32.ofInt (SG m k j))) := by simp [entP, h]
theorem ep23 {w : Wd} {t m k : Nat} (h : tg k = 23) : entP w t m k = .inl (w.2.2 3, ln k, .inr (.inl (fun j => Int64.ofInt (SG m k j)))) := by simp [entP, h]
theorem ep24 {w : Wd} {t m k : Nat} (h : tg k = 24) : entP w t m k = .inl (w.2.2 4, ln k, .inr (.inr (.inr (.inr (rarr w t k))))) := by simp [entP, h]
theorem ep25 {w : Wd} {t m k : Nat} (h : tg k = 25) : entP w t m k = .inl (w.2.2 5, ln k, .inr (.inr (.inr (.inr (rarr w t k))))) := by simp [entP, h]
theorem epO {w : Wd} {t m k ci : Nat} (h : tg k = ci) (hc : ci < 13) : entP w t m k = .inr (ci, (List.range (ln k)).map (fvalP w t m k ci)) := by
  unfold entP
  rw [h]
  match ci, hc with
  | 0, _ => rfl
  | 1, _ => rfl
  | 2, _ => rfl
  | 3, _ => rfl
  | 4, _ => rfl
  | 5, _ => rfl
  | 6, _ => rfl
  | 7, _ => rfl
  | 8, _ => rfl
  | 9, _ => rfl
  | 10, _ => rfl
  | 11, _ => rfl
  | 12, _ => rfl
/-- a number written: the other cells stay -/
theorem entP_num {w : Wd} {t m k i k' : Nat} {x : Int} (h : WLs[m]? = some (k, i, x)) (hk : k' ≠ k) : entP w t (m + 1) k' = entP w t m k' := by
  have e : SG (m + 1) k' = SG m k' := by rw [SG_succ h]; exact up_ne k' hk
  unfold entP fvalP
  rw [e]
/-- a reference written: the other slots stay -/
theorem rfp_ne {t k j k' j' : Nat} (h : RO[t]? = some (k, j)) (hk' : k' < NC) (hr : isRf k' j' = true) (hne : ¬ (k' = k ∧ j' = j)) : rfp (t + 1) k' j' = rfp t k' j' := by
  unfold rfp
  have : qa k' j' ≠ t := fun e => by
    have h2 := qa_ok hk' hr
    rw [e, h] at h2
    have h3 := Option.some.inj h2
    exact hne ⟨(congrArg Prod.fst h3).symm, (congrArg Prod.snd h3).symm⟩
  by_cases q : qa k' j' < t
  · rw [if_pos q, if_pos (by omega)]
  · rw [if_neg q, if_neg (by omega)]
theorem isRf_f {k ci j : Nat} (h : tg k = ci) (hc : ci < 13) (hj : j < ln k) (hq : kof (fty ci j) = 4) : isRf k j = true := by
  have : lnR k = ln k := by
    unfold lnR
    rw [h]
    match ci, hc with
    | 0, _ => rfl
    | 1, _ => rfl
    | 2, _ => rfl
    | 3, _ => rfl
    | 4, _ => rfl
    | 5, _ => rfl
    | 6, _ => rfl
    | 7, _ => rfl
    | 8, _ => rfl
    | 9, _ => rfl
    | 10, _ => rfl
    | 11, _ => rfl
    | 12, _ => rfl
  unfold isRf
  rw [this, h]
  simp [hj, hq]
theorem isRf_a {k j : Nat} (h : tg k = 24 ∨ tg k = 25) (hj : j < ln k) : isRf k j = true := by
  have : lnR k = ln k := by
    unfold lnR
    rcases h with h | h <;> rw [h] <;> rfl
  unfold isRf
  rw [this]
  rcases h with h | h <;> simp [hj, h]
theorem tagsOK : ∀ k, k < NC → tg k < 13 ∨ (20 ≤ tg k ∧ tg k ≤ 25) := by decide +kernel
theorem entP_ref {w : Wd} {t m k j k' : Nat} (h : RO[t]? = some (k, j)) (hn : k' < NC) (hk : k' ≠ k) : entP w (t + 1) m k' = entP w t m k' := by
  have key : ∀ j', isRf k' j' = true → rfp (t + 1) k' j' = rfp t k' j' := fun j' hr => rfp_ne h hn hr (fun q => hk q.1)
  by_cases h24 : tg k' = 24
  · rw [ep24 h24, ep24 h24]
    have : rarr w (t + 1) k' = rarr w t k' := by
      funext j'
      unfold rarr
      by_cases q : j' < ln k'
      · rw [if_pos q, if_pos q, key j' (isRf_a (Or.inl h24) q)]
      · rw [if_neg q, if_neg q]
    rw [this]
  · by_cases h25 : tg k' = 25
    · rw [ep25 h25, ep25 h25]
      have : rarr w (t + 1) k' = rarr w t k' := by
        funext j'
        unfold rarr
        by_cases q : j' < ln k'
        · rw [if_pos q, if_pos q, key j' (isRf_a (Or.inr h25) q)]
        · rw [if_neg q, if_neg q]
      rw [this]
    · by_cases hc : tg k' < 13
      · rw [epO rfl hc, epO rfl hc]
        have : (List.range (ln k')).map (fvalP w (t + 1) m k' (tg k')) = (List.range (ln k')).map (fvalP w t m k' (tg k')) := by
          apply List.map_congr_left
          intro j' hj'
          unfold fvalP
          split
          · rfl
          · next q => rw [key j' (isRf_f rfl hc (List.mem_range.mp hj') q)]
          · rfl
        rw [this]
      · have ht : tg k' = 20 ∨ tg k' = 21 ∨ tg k' = 22 ∨ tg k' = 23 := by
          have := tagsOK k' hn
          omega
        rcases ht with q | q | q | q
        · rw [ep20 q, ep20 q]
        · rw [ep21 q, ep21 q]
        · rw [ep22 q, ep22 q]
        · rw [ep23 q, ep23 q]
theorem arrV_ext {cA : ClassId} {n : Nat} {f g : Nat → Value} (h : ∀ j, j < n → f j = g j) : arrV cA n f = arrV cA n g := by
  unfold arrV
  congr 1
  apply Array.ext
  · simp
  · intro i h1 h2
    simp
    exact h i (by simpa using h1)
theorem aoa_moved {ty : FieldType} {u U : State} (hvm : u.vm.Alike U.vm) (h : (Cond.arrayOver (.array ty)).before #[] u = true) : (Cond.arrayOver (.array ty)).before #[] U = true := by
  have hb : U.vm.bare = u.vm.bare := by first | exact hvm.bare_eq | exact hvm.bare_eq.symm
  unfold Cond.before Cond.holds at h ⊢
  simp only [Cond.value] at h ⊢
  obtain ⟨comp, hf⟩ : ∃ comp, u.vm.findClass (FieldType.array ty).toString = some comp := by
    cases hf : u.vm.findClass (FieldType.array ty).toString with
    | none => rw [hf] at h; simp at h
    | some comp => exact ⟨comp, rfl⟩
  have e1 : u.vm.bare.classes.findIdx? (fun (x : Class) => match x.kind with | .array component _ => component == comp | _ => false) = U.vm.classes.findIdx? (fun (x : Class) => match x.kind with | .array component _ => component == comp | _ => false) := by
    have := va_idx_bare U.vm comp
    rw [hb] at this
    exact this
  have e2 : u.vm.bare.classes.findIdx? (fun (x : Class) => match x.kind with | .array component _ => component == comp | _ => false) = u.vm.classes.findIdx? (fun (x : Class) => match x.kind with | .array component _ => component == comp | _ => false) := va_idx_bare u.vm comp
  have h2 : ((u.vm.classes.findIdx? (fun (x : Class) => match x.kind with | .array component _ => component == comp | _ => false)).bind (fun c => (u.vm.classes[c]?).map fun (k : Class) => match k.kind with | .array _ ty9 => decide (ty9 = FieldType.array ty) && decide (u.vm.findClass ("[" ++ (FieldType.array ty).toString) = some c) | _ => false) == some true) = true := by
    have := h
    rw [hf] at this
    exact this
  rw [← e2, e1] at h2
  rw [hvm.findClass, hf, Option.bind_some]
  refine Eq.trans (b := ((U.vm.classes.findIdx? (fun (x : Class) => match x.kind with | .array component _ => component == comp | _ => false)).bind (fun c => (U.vm.classes[c]?).map fun (k : Class) => match k.kind with | .array _ ty9 => decide (ty9 = FieldType.array ty) && decide (U.vm.findClass ("[" ++ (FieldType.array ty).toString) = some c) | _ => false) == some true)) rfl ?_
  generalize U.vm.classes.findIdx? (fun (x : Class) => match x.kind with | .array component _ => component == comp | _ => false) = o at h2 ⊢
  cases o with
  | none => simp at h2
  | some c =>
    rw [Option.bind_some] at h2 ⊢
    cases hk : u.vm.classes[c]? with
    | none => rw [hk] at h2; simp at h2
    | some k =>
      obtain ⟨k', hk', he⟩ := hvm.2.2 _ _ hk
      have kk : k'.kind = k.kind := by rw [he]
      rw [hk] at h2
      rw [hk', Option.map_some, kk, hvm.findClass]
      exact h2
/-- the JDK's and the nests' links that constructors need -/
def NX (U : State) : Prop := va_Nw (.methodLinkNest RX11 12 yX9_init RX11) U ∧ va_Nw (.methodLinkNest RX11 15 yX5_init RX11) U ∧ va_Nw (.methodLinkNest RX11 18 yX1_init RX11) U ∧ va_Nw (.methodLinkNest RX11 23 yX0_init RX11) U ∧ va_Nw (.methodLinkNest RX0 17 yX3_init RX11) U ∧ va_Nw (.methodLinkNest RX4 11 yX5_init RX11) U ∧ va_AO "HushNet$Agent" U ∧ (Cond.arrayOver (.array .int)).before #[] U = true
theorem NX.warm {s U : State} (hW : s.WarmedH U.vm) (h : NX s) : NX U := ⟨va_Nw.warmM hW h.1, va_Nw.warmM hW h.2.1, va_Nw.warmM hW h.2.2.1, va_Nw.warmM hW h.2.2.2.1, va_Nw.warmM hW h.2.2.2.2.1, va_Nw.warmM hW h.2.2.2.2.2.1, h.2.2.2.2.2.2.1.moved hW.alike, aoa_moved hW.alike h.2.2.2.2.2.2.2⟩
theorem NX.same {u U : State} (e : u.vm = U.vm) (h : NX u) : NX U := ⟨va_Nw.same rfl e h.1, va_Nw.same rfl e h.2.1, va_Nw.same rfl e h.2.2.1, va_Nw.same rfl e h.2.2.2.1, va_Nw.same rfl e h.2.2.2.2.1, va_Nw.same rfl e h.2.2.2.2.2.1, h.2.2.2.2.2.2.1.moved (by rw [← e]; exact Vm.Alike.refl _), aoa_moved (by rw [← e]; exact Vm.Alike.refl _) h.2.2.2.2.2.2.2⟩
def CxP (w : Wd) (p : Program) (s : State) (m : MethodId) (args : Array Value) (c : Code) (A : Nat → Prop) (cc : ByteArray) (own : String) (nL : Nat) : Prop :=
  p.tables.exec = Jvm.exec ∧ c.code = cc ∧ c.maxLocals = nL ∧ s.vm.findClass own = some m.cls ∧ (∀ t ∈ TB, t.before args s = true) ∧ va_K w.1 vwCl (tys w) s ∧ (∀ q, w.2.1 ≤ q → A q) ∧ NX s
def GP (w : Wd) (p : Program) (l : Launch) (e : Env) (R : Room) (s : State) (m : MethodId) (args : Array Value) (below : List Frame) (meth : Method) (c : Code) (A : Nat → Prop) (Q : State → Prop) (nL : Nat) (cells slots n t mm pc : Nat) (L : List (Option Value)) (st : List Value) : Prop :=
  (∀ k, n ≤ k → ∀ j, SG mm k j = 0) → ∀ (H : Heap) (locs : List Loc) (ls : Array Slot), va_P w.1 vwCl (cwP w n t mm) H → H.size = w.2.1 + n → va_S A s.heap H locs → LR ls nL L → W p l e R s m args below meth c H locs cells slots Q (F0 m pc ls st)
def CtPP (w : Wd) (n t m : Nat) (av : List Value) : Array Value → State → Prop := va_Pc av (fun U => U.heap.size = w.2.1 + n ∧ (∀ k, n ≤ k → ∀ j, SG m k j = 0) ∧ va_P w.1 vwCl (cwP w n t m) U.heap ∧ va_K w.1 vwCl (tys w) U ∧ NX U)
def CtPQ (w : Wd) (n t m : Nat) (r : Option Value) : Array Value → State → Outcome → State → Prop := fun _ st oc u => (oc = .returned r ∧ (∀ k, n ≤ k → ∀ j, SG m k j = 0) ∧ u.heap.size = w.2.1 + n ∧ va_P w.1 vwCl (cwP w n t m) u.heap) ∧ va_F (fun q => w.2.1 ≤ q) st u
/-- from the time (n, t, m) to (n', t', m'), mc cells of ms slots made -/
def CtI (w : Wd) (l : Launch) (y : MethodName) (ws : List Cond) (rm : Room) (av : List Value) (n t m n' t' m' : Nat) (r : Option Value) (mc ms : Nat) : Prop := Met l y ws rm (CtPP w n t m av) (CtPQ w n' t' m' r) mc ms (fun q => w.2.1 ≤ q)
abbrev GPM (w : Wd) (p : Program) (l : Launch) (e : Env) (R : Room) (s : State) (m : MethodId) (args : Array Value) (below : List Frame) (meth : Method) (c : Code) (r : Option Value) (n' t' m' mc ms : Nat) (nL : Nat) (cells slots n t mm pc : Nat) (L : List (Option Value)) (st : List Value) : Prop := GP w p l e R s m args below meth c (fun q => w.2.1 ≤ q) (MQ below (CtPQ w n' t' m' r) args s mc ms (fun q => w.2.1 ≤ q)) nL cells slots n t mm pc L st
theorem CtI.of {w : Wd} {l : Launch} {y : MethodName} {cc : ByteArray} {nL : Nat} {ret : Option FieldType} {rm : Room} {av : List Value} {n t m n' t' m' mc ms : Nat} {r : Option Value} (L0 : List (Option Value)) (k : Nat) (hL : argL av ++ List.replicate k none = L0) (hy : plainName y.cls = true) (hlen : (lg_sl av).length ≤ nL)
    (body : ∀ (p : Program) (e : Env) (s : State) (mi : MethodId) (args : Array Value) (below : List Frame) (meth : Method) (c : Code), CxP w p s mi args c (fun q => w.2.1 ≤ q) cc y.cls nL → meth.sig.returnType = ret → meth.locks = false → meth.name = y.name →
      GPM w p l e rm s mi args below meth c r n' t' m' mc ms nL 0 0 n t m 0 L0 []) : CtI w l y (Cond.code y cc nL ret :: TB) rm av n t m n' t' m' r mc ms := by
  refine Met.ofW (cc := cc) (maxL := nL) (ret := ret) hy rfl ?_
  intro p e s mi args below meth c s₁ B hml hv
  obtain ⟨rfl, hsz, hz, hP, hK, hX⟩ := hv
  have hts := atoms_spec (ws := Cond.code y cc nL ret :: TB) B.pre
  have hb := body p e s mi av.toArray below meth c ⟨B.exec, B.bytes, hml, findClass_of_methodNamed B.named, fun t ht => hts t (List.mem_cons_of_mem _ ht), hK, fun q h => h, hX⟩ B.returns B.notSynchronized (name_of_methodNamed B.named B.method).1 hz s.heap []
  have hl := lv_entry av (n := nL) hlen
  rw [lg_entry_eq]
  exact hb _ hP hsz va_S.rf (LR.of hl (fun i v h => by subst hL; have := argL_in av 0 i v (argL_pad _ _ _ _ h); rwa [Nat.zero_add] at this))
section GH
variable {w : Wd} {p : Program} {l : Launch} {e : Env} {R : Room} {s : State} {m : MethodId} {args : Array Value} {below : List Frame} {meth : Method} {c : Code} {A : Nat → Prop} {cells slots nn tt mm : Nat} {Q : State → Prop} {cc : ByteArray} {own : String} {nL pc : Nat} {L : List (Option Value)} {st : List Value}
theorem h_iconst {n : Int} (C : CxP w p s m args c A cc own nL) (hd : decode cc pc = .ok (.iconst n, 1))  (k : GP w p l e R s m args below meth c A Q nL cells slots nn tt mm (pc + 1) L (iv n :: st)) : GP w p l e R s m args below meth c A Q nL cells slots nn tt mm pc L st := by
  intro ho H locs ls hP hD hS hl
  exact lv_iconst C.1 C.2.1 hd rfl (k ho H locs ls hP hD hS hl)
theorem h_bipush {n : Int} (C : CxP w p s m args c A cc own nL) (hd : decode cc pc = .ok (.bipush n, 2)) (hn : (Int8.ofInt n).toInt32 = Int32.ofInt n) (k : GP w p l e R s m args below meth c A Q nL cells slots nn tt mm (pc + 2) L (iv n :: st)) : GP w p l e R s m args below meth c A Q nL cells slots nn tt mm pc L st := by
  intro ho H locs ls hP hD hS hl
  exact lv_bipush C.1 C.2.1 hd hn (k ho H locs ls hP hD hS hl)
theorem h_sipush {n : Int} (C : CxP w p s m args c A cc own nL) (hd : decode cc pc = .ok (.sipush n, 3)) (hn : (Int16.ofInt n).toInt32 = Int32.ofInt n) (k : GP w p l e R s m args below meth c A Q nL cells slots nn tt mm (pc + 3) L (iv n :: st)) : GP w p l e R s m args below meth c A Q nL cells slots nn tt mm pc L st := by
  intro ho H locs ls hP hD hS hl
  exact lv_sipush C.1 C.2.1 hd hn (k ho H locs ls hP hD hS hl)
theorem h_lconst0  (C : CxP w p s m args c A cc own nL) (hd : decode cc pc = .ok (.lconst 0, 1))  (k : GP w p l e R s m args below meth c A Q nL cells slots nn tt mm (pc + 1) L (jv 0 :: st)) : GP w p l e R s m args below meth c A Q nL cells slots nn tt mm pc L st := by
  intro ho H locs ls hP hD hS hl
  exact lv_lconst C.1 C.2.1 hd rfl (k ho H locs ls hP hD hS hl)
theorem h_lconst1  (C : CxP w p s m args c A cc own nL) (hd : decode cc pc = .ok (.lconst 1, 1))  (k : GP w p l e R s m args below meth c A Q nL cells slots nn tt mm (pc + 1) L (jv 1 :: st)) : GP w p l e R s m args below meth c A Q nL cells slots nn tt mm pc L st := by
  intro ho H locs ls hP hD hS hl
  exact lv_lconst C.1 C.2.1 hd rfl (k ho H locs ls hP hD hS hl)
theorem h_iload_n {k0 : Fin 4} {x : Int} (C : CxP w p s m args c A cc own nL) (hd : decode cc pc = .ok (.iload_n k0, 1)) (hx : L[(k0 : Nat)]? = some (some (iv x))) (k : GP w p l e R s m args below meth c A Q nL cells slots nn tt mm (pc + 1) L (iv x :: st)) : GP w p l e R s m args below meth c A Q nL cells slots nn tt mm pc L st := by
  intro ho H locs ls hP hD hS hl
  exact lv_iload_n C.1 C.2.1 hd rfl (hl.2.2 _ _ hx) (k ho H locs ls hP hD hS hl)
theorem h_iload {i : Nat} {x : Int} (C : CxP w p s m args c A cc own nL) (hd : decode cc pc = .ok (.iload i, 2)) (hx : L[i]? = some (some (iv x))) (k : GP w p l e R s m args below meth c A Q nL cells slots nn tt mm (pc + 2) L (iv x :: st)) : GP w p l e R s m args below meth c A Q nL cells slots nn tt mm pc L st := by
  intro ho H locs ls hP hD hS hl
  exact lv_iload C.1 C.2.1 hd (hl.2.2 _ _ hx) (k ho H locs ls hP hD hS hl)
theorem h_lload_n {k0 : Fin 4} {x : Int} (C : CxP w p s m args c A cc own nL) (hd : decode cc pc = .ok (.lload_n k0, 1)) (hx : L[(k0 : Nat)]? = some (some (jv x))) (k : GP w p l e R s m args below meth c A Q nL cells slots nn tt mm (pc + 1) L (jv x :: st)) : GP w p l e R s m args below meth c A Q nL cells slots nn tt mm pc L st := by
  intro ho H locs ls hP hD hS hl
  exact lv_lload_n C.1 C.2.1 hd rfl (hl.2.2 _ _ hx) (k ho H locs ls hP hD hS hl)
theorem h_lload {i : Nat} {x : Int} (C : CxP w p s m args c A cc own nL) (hd : decode cc pc = .ok (.lload i, 2)) (hx : L[i]? = some (some (jv x))) (k : GP w p l e R s m args below meth c A Q nL cells slots nn tt mm (pc + 2) L (jv x :: st)) : GP w p l e R s m args below meth c A Q nL cells slots nn tt mm pc L st := by
  intro ho H locs ls hP hD hS hl
  exact lv_lload C.1 C.2.1 hd (hl.2.2 _ _ hx) (k ho H locs ls hP hD hS hl)
theorem h_aload_n {k0 : Fin 4} {x : Nat} (C : CxP w p s m args c A cc own nL) (hd : decode cc pc = .ok (.aload_n k0, 1)) (hx : L[(k0 : Nat)]? = some (some (rv w x))) (k : GP w p l e R s m args below meth c A Q nL cells slots nn tt mm (pc + 1) L (rv w x :: st)) : GP w p l e R s m args below meth c A Q nL cells slots nn tt mm pc L st := by
  intro ho H locs ls hP hD hS hl
  exact lv_aload_n C.1 C.2.1 hd rfl (hl.2.2 _ _ hx) (k ho H locs ls hP hD hS hl)
theorem h_aload {i : Nat} {x : Nat} (C : CxP w p s m args c A cc own nL) (hd : decode cc pc = .ok (.aload i, 2)) (hx : L[i]? = some (some (rv w x))) (k : GP w p l e R s m args below meth c A Q nL cells slots nn tt mm (pc + 2) L (rv w x :: st)) : GP w p l e R s m args below meth c A Q nL cells slots nn tt mm pc L st := by
  intro ho H locs ls hP hD hS hl
  exact lv_aload C.1 C.2.1 hd (hl.2.2 _ _ hx) (k ho H locs ls hP hD hS hl)
theorem h_istore_n {k0 : Fin 4} {x : Int} {L1 : List (Option Value)} (C : CxP w p s m args c A cc own nL) (hd : decode cc pc = .ok (.istore_n k0, 1)) (hs : okS L (k0 : Nat) = true) (hn : (k0 : Nat) < nL) (hL : L.set (k0 : Nat) (some (iv x)) = L1) (k : GP w p l e R s m args below meth c A Q nL cells slots nn tt mm (pc + 1) L1 (st)) : GP w p l e R s m args below meth c A Q nL cells slots nn tt mm pc L (iv x :: st) := by
  intro ho H locs ls hP hD hS hl
  subst hL
  exact lv_istore_n C.1 C.2.1 hd rfl hl.has hn rfl (fun ls9 h9 => k ho H locs ls9 hP hD hS (LR.st1 hs h9))
theorem h_istore {i : Nat} {x : Int} {L1 : List (Option Value)} (C : CxP w p s m args c A cc own nL) (hd : decode cc pc = .ok (.istore i, 2)) (hs : okS L i = true) (hn : i < nL) (hL : L.set i (some (iv x)) = L1) (k : GP w p l e R s m args below meth c A Q nL cells slots nn tt mm (pc + 2) L1 (st)) : GP w p l e R s m args below meth c A Q nL cells slots nn tt mm pc L (iv x :: st) := by
  intro ho H locs ls hP hD hS hl
  subst hL
  exact lv_istore C.1 C.2.1 hd hl.has hn rfl (fun ls9 h9 => k ho H locs ls9 hP hD hS (LR.st1 hs h9))
theorem h_lstore_n {k0 : Fin 4} {x : Int} {L1 : List (Option Value)} (C : CxP w p s m args c A cc own nL) (hd : decode cc pc = .ok (.lstore_n k0, 1)) (hs : okS L (k0 : Nat) = true) (hn : (k0 : Nat) + 1 < nL) (hL : (L.set (k0 : Nat) (some (jv x))).set ((k0 : Nat) + 1) none = L1) (k : GP w p l e R s m args below meth c A Q nL cells slots nn tt mm (pc + 1) L1 (st)) : GP w p l e R s m args below meth c A Q nL cells slots nn tt mm pc L (jv x :: st) := by
  intro ho H locs ls hP hD hS hl
  subst hL
  exact lv_lstore_n C.1 C.2.1 hd rfl hl.has hn rfl (fun ls9 h9 => k ho H locs ls9 hP hD hS (LR.st2 hs h9))
theorem h_astore_n {k0 : Fin 4} {x : Nat} {L1 : List (Option Value)} (C : CxP w p s m args c A cc own nL) (hd : decode cc pc = .ok (.astore_n k0, 1)) (hs : okS L (k0 : Nat) = true) (hn : (k0 : Nat) < nL) (hL : L.set (k0 : Nat) (some (rv w x)) = L1) (k : GP w p l e R s m args below meth c A Q nL cells slots nn tt mm (pc + 1) L1 (st)) : GP w p l e R s m args below meth c A Q nL cells slots nn tt mm pc L (rv w x :: st) := by
  intro ho H locs ls hP hD hS hl
  subst hL
  exact lv_astore_n C.1 C.2.1 hd rfl hl.has hn rfl (fun ls9 h9 => k ho H locs ls9 hP hD hS (LR.st1 hs h9))
theorem h_astore {i : Nat} {x : Nat} {L1 : List (Option Value)} (C : CxP w p s m args c A cc own nL) (hd : decode cc pc = .ok (.astore i, 2)) (hs : okS L i = true) (hn : i < nL) (hL : L.set i (some (rv w x)) = L1) (k : GP w p l e R s m args below meth c A Q nL cells slots nn tt mm (pc + 2) L1 (st)) : GP w p l e R s m args below meth c A Q nL cells slots nn tt mm pc L (rv w x :: st) := by
  intro ho H locs ls hP hD hS hl
  subst hL
  exact lv_astore C.1 C.2.1 hd hl.has hn rfl (fun ls9 h9 => k ho H locs ls9 hP hD hS (LR.st1 hs h9))
theorem h_iinc {i : Nat} {n : Int} {x : Int} {L1 : List (Option Value)} (C : CxP w p s m args c A cc own nL) (hd : decode cc pc = .ok (.iinc i n, 3)) (hx : L[i]? = some (some (iv x))) (hs : okS L i = true) (hn : i < nL) (hL : L.set i (some (iv (wr (x + n)))) = L1) (k : GP w p l e R s m args below meth c A Q nL cells slots nn tt mm (pc + 3) L1 (st)) : GP w p l e R s m args below meth c A Q nL cells slots nn tt mm pc L st := by
  intro ho H locs ls hP hD hS hl
  subst hL
  obtain ⟨j, hj⟩ := List.getElem?_of_mem (mem_lvs.mpr hx)
  exact lv_iinc C.1 C.2.1 hd hl.has hj (v := Int32.ofInt (wr (x + n))) (by rw [wr, oi, Int32.ofInt_add]) hn rfl (fun ls9 h9 => k ho H locs ls9 hP hD hS (LR.st1 hs h9))
theorem h_iadd {x y : Int} (C : CxP w p s m args c A cc own nL) (hd : decode cc pc = .ok (.iadd, 1))  (k : GP w p l e R s m args below meth c A Q nL cells slots nn tt mm (pc + 1) L (iv (wr (x + y)) :: st)) : GP w p l e R s m args below meth c A Q nL cells slots nn tt mm pc L (iv y :: iv x :: st) := by
  intro ho H locs ls hP hD hS hl
  have k9 := k ho H locs ls hP hD hS hl
  unfold iv at k9 ⊢
  rw [wr, oi, Int32.ofInt_add] at k9
  exact lv_iadd C.1 C.2.1 hd k9
theorem h_isub {x y : Int} (C : CxP w p s m args c A cc own nL) (hd : decode cc pc = .ok (.isub, 1))  (k : GP w p l e R s m args below meth c A Q nL cells slots nn tt mm (pc + 1) L (iv (wr (x - y)) :: st)) : GP w p l e R s m args below meth c A Q nL cells slots nn tt mm pc L (iv y :: iv x :: st) := by
  intro ho H locs ls hP hD hS hl
  have k9 := k ho H locs ls hP hD hS hl
  unfold iv at k9 ⊢
  rw [wr, oi, Int32.ofInt_sub] at k9
  exact lv_isub C.1 C.2.1 hd k9
theorem h_imul {x y : Int} (C : CxP w p s m args c A cc own nL) (hd : decode cc pc = .ok (.imul, 1))  (k : GP w p l e R s m args below meth c A Q nL cells slots nn tt mm (pc + 1) L (iv (wr (x * y)) :: st)) : GP w p l e R s m args below meth c A Q nL cells slots nn tt mm pc L (iv y :: iv x :: st) := by
  intro ho H locs ls hP hD hS hl
  have k9 := k ho H locs ls hP hD hS hl
  unfold iv at k9 ⊢
  rw [wr, oi, Int32.ofInt_mul] at k9
  exact lv_imul C.1 C.2.1 hd k9
theorem h_ladd {x y : Int} (C : CxP w p s m args c A cc own nL) (hd : decode cc pc = .ok (.ladd, 1))  (k : GP w p l e R s m args below meth c A Q nL cells slots nn tt mm (pc + 1) L (jv (wl (x + y)) :: st)) : GP w p l e R s m args below meth c A Q nL cells slots nn tt mm pc L (jv y :: jv x :: st) := by
  intro ho H locs ls hP hD hS hl
  have k9 := k ho H locs ls hP hD hS hl
  unfold jv at k9 ⊢
  rw [wl, ol, Int64.ofInt_add] at k9
  exact lv_ladd C.1 C.2.1 hd k9
theorem h_lmul {x y : Int} (C : CxP w p s m args c A cc own nL) (hd : decode cc pc = .ok (.lmul, 1))  (k : GP w p l e R s m args below meth c A Q nL cells slots nn tt mm (pc + 1) L (jv (wl (x * y)) :: st)) : GP w p l e R s m args below meth c A Q nL cells slots nn tt mm pc L (jv y :: jv x :: st) := by
  intro ho H locs ls hP hD hS hl
  have k9 := k ho H locs ls hP hD hS hl
  unfold jv at k9 ⊢
  rw [wl, ol, Int64.ofInt_mul] at k9
  exact lv_lmul C.1 C.2.1 hd k9
theorem h_i2l {x : Int} (C : CxP w p s m args c A cc own nL) (hd : decode cc pc = .ok (.i2l, 1)) (hx : InI x) (k : GP w p l e R s m args below meth c A Q nL cells slots nn tt mm (pc + 1) L (jv x :: st)) : GP w p l e R s m args below meth c A Q nL cells slots nn tt mm pc L (iv x :: st) := by
  intro ho H locs ls hP hD hS hl
  have k9 := k ho H locs ls hP hD hS hl
  unfold iv
  unfold jv at k9
  exact lv_i2l C.1 C.2.1 hd (by rw [← Int64.ofInt_int32ToInt, ti hx]) k9
theorem h_ldc2 {index : Nat} {n : Int} {v : Int64} (C : CxP w p s m args c A cc own nL) (hd : decode cc pc = .ok (.ldc2_w index, 3)) (hv : Int64.ofInt n = v) (hc : Cond.constantLong own index v ∈ TB) (k : GP w p l e R s m args below meth c A Q nL cells slots nn tt mm (pc + 3) L (jv n :: st)) : GP w p l e R s m args below meth c A Q nL cells slots nn tt mm pc L st := by
  intro ho H locs ls hP hD hS hl
  subst hv
  exact lv_ldc2 C.1 C.2.1 C.2.2.2.1 (C.2.2.2.2.1 _ hc) hd (k ho H locs ls hP hD hS hl)
theorem h_dup {v : Value} (C : CxP w p s m args c A cc own nL) (hd : decode cc pc = .ok (.dup, 1)) (hv : v.category = 1) (k : GP w p l e R s m args below meth c A Q nL cells slots nn tt mm (pc + 1) L (v :: v :: st)) : GP w p l e R s m args below meth c A Q nL cells slots nn tt mm pc L (v :: st) := by
  intro ho H locs ls hP hD hS hl
  exact lv_dup C.1 C.2.1 hd hv (k ho H locs ls hP hD hS hl)
theorem h_icmp_ge {x y : Int} {off : Int} {tgt : Nat} (C : CxP w p s m args c A cc own nL) (hd : decode cc pc = .ok (.if_icmp .ge off, 3)) (hx : InI x) (hy : InI y) (ht : (pc : Int) + off = (tgt : Int)) (kt : y ≤ x → GP w p l e R s m args below meth c A Q nL cells slots nn tt mm tgt L st) (kf : ¬ (y ≤ x) → GP w p l e R s m args below meth c A Q nL cells slots nn tt mm (pc + 3) L st) : GP w p l e R s m args below meth c A Q nL cells slots nn tt mm pc L (iv y :: iv x :: st) := by
  intro ho H locs ls hP hD hS hl
  exact lv_icmp_ge C.1 C.2.1 hd ht (fun q => kt ((iv_le hy hx).mp q) ho H locs ls hP hD hS hl) (fun q => kf (fun z => q ((iv_le hy hx).mpr z)) ho H locs ls hP hD hS hl)
theorem h_icmp_ne {x y : Int} {off : Int} {tgt : Nat} (C : CxP w p s m args c A cc own nL) (hd : decode cc pc = .ok (.if_icmp .ne off, 3)) (hx : InI x) (hy : InI y) (ht : (pc : Int) + off = (tgt : Int)) (kt : ¬ x = y → GP w p l e R s m args below meth c A Q nL cells slots nn tt mm tgt L st) (kf : x = y → GP w p l e R s m args below meth c A Q nL cells slots nn tt mm (pc + 3) L st) : GP w p l e R s m args below meth c A Q nL cells slots nn tt mm pc L (iv y :: iv x :: st) := by
  intro ho H locs ls hP hD hS hl
  exact lv_icmp_ne C.1 C.2.1 hd ht (fun q => kt (fun z => q ((iv_eq hx hy).mpr z)) ho H locs ls hP hD hS hl) (fun q => kf ((iv_eq hx hy).mp q) ho H locs ls hP hD hS hl)
theorem h_if_ne {x : Int} {off : Int} {tgt : Nat} (C : CxP w p s m args c A cc own nL) (hd : decode cc pc = .ok (.ifCond .ne off, 3)) (hx : InI x) (ht : (pc : Int) + off = (tgt : Int)) (kt : ¬ x = 0 → GP w p l e R s m args below meth c A Q nL cells slots nn tt mm tgt L st) (kf : x = 0 → GP w p l e R s m args below meth c A Q nL cells slots nn tt mm (pc + 3) L st) : GP w p l e R s m args below meth c A Q nL cells slots nn tt mm pc L (iv x :: st) := by
  intro ho H locs ls hP hD hS hl
  exact lv_if_ne C.1 C.2.1 hd ht (fun q => kt (fun z => q ((iv_eq hx cI0).mpr z)) ho H locs ls hP hD hS hl) (fun q => kf ((iv_eq hx cI0).mp q) ho H locs ls hP hD hS hl)
theorem h_if_eq {x : Int} {off : Int} {tgt : Nat} (C : CxP w p s m args c A cc own nL) (hd : decode cc pc = .ok (.ifCond .eq off, 3)) (hx : InI x) (ht : (pc : Int) + off = (tgt : Int)) (kt : x = 0 → GP w p l e R s m args below meth c A Q nL cells slots nn tt mm tgt L st) (kf : ¬ (x = 0) → GP w p l e R s m args below meth c A Q nL cells slots nn tt mm (pc + 3) L st) : GP w p l e R s m args below meth c A Q nL cells slots nn tt mm pc L (iv x :: st) := by
  intro ho H locs ls hP hD hS hl
  exact lv_if_eq C.1 C.2.1 hd ht (fun q => kt ((iv_eq hx cI0).mp q) ho H locs ls hP hD hS hl) (fun q => kf (fun z => q ((iv_eq hx cI0).mpr z)) ho H locs ls hP hD hS hl)
theorem h_goto {off : Int} {tgt : Nat} (C : CxP w p s m args c A cc own nL) (hd : decode cc pc = .ok (.goto off, 3)) (ht : (pc : Int) + off = (tgt : Int)) (k : GP w p l e R s m args below meth c A Q nL cells slots nn tt mm (tgt) L (st)) : GP w p l e R s m args below meth c A Q nL cells slots nn tt mm pc L st := by
  intro ho H locs ls hP hD hS hl
  exact lv_goto C.1 C.2.1 hd ht (k ho H locs ls hP hD hS hl)
theorem h_E {x y : Int} (h : x = y) (k : GP w p l e R s m args below meth c A Q nL cells slots nn tt mm pc L (iv y :: st)) : GP w p l e R s m args below meth c A Q nL cells slots nn tt mm pc L (iv x :: st) := by subst h; exact k
theorem h_EJ {x y : Int} (h : x = y) (k : GP w p l e R s m args below meth c A Q nL cells slots nn tt mm pc L (jv y :: st)) : GP w p l e R s m args below meth c A Q nL cells slots nn tt mm pc L (jv x :: st) := by subst h; exact k
theorem h_mask (bs : List Bool) (k : GP w p l e R s m args below meth c A Q nL cells slots nn tt mm pc (mskL bs L) st) : GP w p l e R s m args below meth c A Q nL cells slots nn tt mm pc L st := fun ho H locs ls hP hD hS hl => k ho H locs ls hP hD hS ⟨hl.1, hl.2.1, fun i v q => hl.2.2 i v (mskL_get bs L i v q)⟩


theorem new_ok {H H1 : Heap} {t n : Nat} (hP : va_P w.1 vwCl (cwP w n t mm) H) (hZ : H.size = w.2.1 + n) (o1 : ∀ q, q < w.2.1 + n → H1[q]? = H[q]?) (hn : va_at w.1 vwCl (w.2.1 + n, entP w t mm n) H1) : va_P w.1 vwCl (cwP w (n + 1) t mm) H1 := by
  intro i q hq
  obtain ⟨hi, rfl⟩ := cwP_of hq
  by_cases h : i < n
  · exact (hP i _ (cwP_get h)).kept (o1 _ (by show w.2.1 + i < _; omega))
  · have : i = n := by omega
    subst this
    exact hn
def goodT : FieldType → Bool
  | .int => true
  | .boolean => true
  | .byte => true
  | .long => true
  | .object _ => true
  | .array _ => true
  | _ => false
theorem goodT_ok : ∀ ci, ci < 13 → ∀ j, j < NXf ci → goodT (fty ci j) = true := by decide +kernel
theorem dflt {t n ci j : Nat} (hg : goodT (fty ci j) = true) (hz : SG mm n j = 0) (hq : kof (fty ci j) = 4 → rfp t n j = none) : defaultValue (fty ci j) = fvalP w t mm n ci j := by
  unfold fvalP
  rw [hz]
  cases h : fty ci j with
  | object C => rw [h] at hq; simp only [kof]; rw [hq rfl]; rfl
  | array C => rw [h] at hq; simp only [kof]; rw [hq rfl]; rfl
  | int => rfl
  | boolean => rfl
  | byte => rfl
  | long => rfl
  | _ => rw [h] at hg; cases hg
theorem h_new {idx ci n1 c1 s1 : Nat} (C : CxP w p s m args c A cc own nL) (hd : decode cc pc = .ok (.new idx, 3)) (ht : tg nn = ci) (hc : ci < 13) (hcl : Cond.classLink own idx (RXf ci) ∈ TB) (hins : Cond.instantiable (RXf ci) (NXf ci) ∈ TB) (hini : Cond.initialized (RXf ci) ∈ TB) (hq : ∀ j, j < ln nn → isRf nn j = true → tt ≤ qa nn j) (hcs : cells + 1 ≤ R.cells ∧ slots + NXf ci ≤ R.slots) (e1 : nn + 1 = n1) (e2 : cells + 1 = c1) (e3 : slots + NXf ci = s1)
    (k : GP w p l e R s m args below meth c A Q nL c1 s1 n1 tt mm (pc + 3) L (rv w nn :: st)) : GP w p l e R s m args below meth c A Q nL cells slots nn tt mm pc L st := by
  intro hz H locs ls hP hZ hS hl
  subst e1
  subst e2
  subst e3
  obtain ⟨c1', c2, c3, c4⟩ := clOK ci hc
  have hk : nn < NC := tg_lt ht (by omega)
  have hln : ln nn = NXf ci := by have := lnO nn hk (by omega); rw [ht] at this; exact this
  have hts := C.2.2.2.2.1
  have hKn := C.2.2.2.2.2.1.1 ci _ c1'
  refine W.newcK C.1 C.2.1 C.2.2.2.1 (hts _ hcl) (hts _ hins) (hts _ hini) rfl hd hcs.1 hcs.2 hKn.2.1 hZ fun H1 kC hkC e1 z1 o1 => ?_
  refine k (fun k hk j => hz k (by omega) j) H1 locs ls (new_ok hP hZ o1 ?_) (by omega) ⟨Nat.le_trans hS.1 (by omega), fun x h1 h2 => (o1 x (by have := hS.1; omega)).trans (hS.2.1 x h1 h2), hS.2.2⟩ hl
  rw [epO ht hc]
  refine ⟨_, c1', (u_born (fty ci) hts c2 hKn hkC e1 c3).to (fun j hj => ?_)⟩
  have hj' : j < ln nn := by rw [hln]; exact hj
  show _ = vp_V _ j
  unfold vp_V
  rw [List.getD_eq_getElem?_getD, List.getElem?_map, List.getElem?_range hj']
  show _ = fvalP w tt mm nn ci j
  refine dflt (goodT_ok ci hc j hj) (hz nn (Nat.le_refl _) j) (fun q4 => ?_)
  unfold rfp
  rw [if_neg (by have := hq j hj' (isRf_f ht hc hj' q4); omega)]
theorem h_newa20 {x : Int} {N n1 c1 s1 : Nat} (C : CxP w p s m args c A cc own nL) (hd : decode cc pc = .ok (.newarray .int, 2)) (ht : tg nn = 20) (hN : ln nn = N) (hx : (Int32.ofInt x).toNatClampNeg = N) (h0 : ¬ Int32.ofInt x < 0) (hac : Cond.arrayClass .int ∈ TB) (hb : N * componentBytes .int ≤ 536870912) (hcs : cells + 1 ≤ R.cells ∧ slots + N ≤ R.slots) (e1 : nn + 1 = n1) (e2 : cells + 1 = c1) (e3 : slots + N = s1)
    (k : GP w p l e R s m args below meth c A Q nL c1 s1 n1 tt mm (pc + 2) L (rv w nn :: st)) : GP w p l e R s m args below meth c A Q nL cells slots nn tt mm pc L (iv x :: st) := by
  intro hz H locs ls hP hZ hS hl
  subst e1
  subst e2
  subst e3
  subst hN
  have hts := C.2.2.2.2.1
  refine va_newaK (atype := .int) C.1 C.2.1 (hts _ hac) rfl hd rfl h0 hx hb hcs.1 hcs.2 hZ fun H1 cA e1 z1 o1 hAr hNm => ?_
  refine k (fun k hk j => hz k (by omega) j) H1 locs ls (new_ok hP hZ o1 ?_) (by omega) ⟨Nat.le_trans hS.1 (by omega), fun x h1 h2 => (o1 x (by have := hS.1; omega)).trans (hS.2.1 x h1 h2), hS.2.2⟩ hl
  have hA := (C.2.2.2.2.2.1.2 0 _ rfl).2
  have hcA : cA = w.2.2 0 := Option.some.inj (hNm.symm.trans hA)
  rw [ep20 ht]
  show H1[w.2.1 + nn]? = some (vp_cell (w.2.2 0) (ln nn, .inl (fun j => Int32.ofInt (SG mm nn j))))
  rw [vp_cell_i, e1, hcA]
  congr 1
  exact arrV_ext (fun j hj => by rw [hz nn (Nat.le_refl _) j]; rfl)
theorem h_newa21 {x : Int} {N n1 c1 s1 : Nat} (C : CxP w p s m args c A cc own nL) (hd : decode cc pc = .ok (.newarray .byte, 2)) (ht : tg nn = 21) (hN : ln nn = N) (hx : (Int32.ofInt x).toNatClampNeg = N) (h0 : ¬ Int32.ofInt x < 0) (hac : Cond.arrayClass .byte ∈ TB) (hb : N * componentBytes .byte ≤ 536870912) (hcs : cells + 1 ≤ R.cells ∧ slots + N ≤ R.slots) (e1 : nn + 1 = n1) (e2 : cells + 1 = c1) (e3 : slots + N = s1)
    (k : GP w p l e R s m args below meth c A Q nL c1 s1 n1 tt mm (pc + 2) L (rv w nn :: st)) : GP w p l e R s m args below meth c A Q nL cells slots nn tt mm pc L (iv x :: st) := by
  intro hz H locs ls hP hZ hS hl
  subst e1
  subst e2
  subst e3
  subst hN
  have hts := C.2.2.2.2.1
  refine va_newaK (atype := .byte) C.1 C.2.1 (hts _ hac) rfl hd rfl h0 hx hb hcs.1 hcs.2 hZ fun H1 cA e1 z1 o1 hAr hNm => ?_
  refine k (fun k hk j => hz k (by omega) j) H1 locs ls (new_ok hP hZ o1 ?_) (by omega) ⟨Nat.le_trans hS.1 (by omega), fun x h1 h2 => (o1 x (by have := hS.1; omega)).trans (hS.2.1 x h1 h2), hS.2.2⟩ hl
  have hA := (C.2.2.2.2.2.1.2 1 _ rfl).2
  have hcA : cA = w.2.2 1 := Option.some.inj (hNm.symm.trans hA)
  rw [ep21 ht]
  show H1[w.2.1 + nn]? = some (vp_cell (w.2.2 1) (ln nn, .inl (fun j => Int32.ofInt (SG mm nn j))))
  rw [vp_cell_i, e1, hcA]
  congr 1
  exact arrV_ext (fun j hj => by rw [hz nn (Nat.le_refl _) j]; rfl)
theorem h_newa22 {x : Int} {N n1 c1 s1 : Nat} (C : CxP w p s m args c A cc own nL) (hd : decode cc pc = .ok (.newarray .boolean, 2)) (ht : tg nn = 22) (hN : ln nn = N) (hx : (Int32.ofInt x).toNatClampNeg = N) (h0 : ¬ Int32.ofInt x < 0) (hac : Cond.arrayClass .boolean ∈ TB) (hb : N * componentBytes .boolean ≤ 536870912) (hcs : cells + 1 ≤ R.cells ∧ slots + N ≤ R.slots) (e1 : nn + 1 = n1) (e2 : cells + 1 = c1) (e3 : slots + N = s1)
    (k : GP w p l e R s m args below meth c A Q nL c1 s1 n1 tt mm (pc + 2) L (rv w nn :: st)) : GP w p l e R s m args below meth c A Q nL cells slots nn tt mm pc L (iv x :: st) := by
  intro hz H locs ls hP hZ hS hl
  subst e1
  subst e2
  subst e3
  subst hN
  have hts := C.2.2.2.2.1
  refine va_newaK (atype := .boolean) C.1 C.2.1 (hts _ hac) rfl hd rfl h0 hx hb hcs.1 hcs.2 hZ fun H1 cA e1 z1 o1 hAr hNm => ?_
  refine k (fun k hk j => hz k (by omega) j) H1 locs ls (new_ok hP hZ o1 ?_) (by omega) ⟨Nat.le_trans hS.1 (by omega), fun x h1 h2 => (o1 x (by have := hS.1; omega)).trans (hS.2.1 x h1 h2), hS.2.2⟩ hl
  have hA := (C.2.2.2.2.2.1.2 2 _ rfl).2
  have hcA : cA = w.2.2 2 := Option.some.inj (hNm.symm.trans hA)
  rw [ep22 ht]
  show H1[w.2.1 + nn]? = some (vp_cell (w.2.2 2) (ln nn, .inl (fun j => Int32.ofInt (SG mm nn j))))
  rw [vp_cell_i, e1, hcA]
  congr 1
  exact arrV_ext (fun j hj => by rw [hz nn (Nat.le_refl _) j]; rfl)
theorem h_newa23 {x : Int} {N n1 c1 s1 : Nat} (C : CxP w p s m args c A cc own nL) (hd : decode cc pc = .ok (.newarray .long, 2)) (ht : tg nn = 23) (hN : ln nn = N) (hx : (Int32.ofInt x).toNatClampNeg = N) (h0 : ¬ Int32.ofInt x < 0) (hac : Cond.arrayClass .long ∈ TB) (hb : N * componentBytes .long ≤ 536870912) (hcs : cells + 1 ≤ R.cells ∧ slots + N ≤ R.slots) (e1 : nn + 1 = n1) (e2 : cells + 1 = c1) (e3 : slots + N = s1)
    (k : GP w p l e R s m args below meth c A Q nL c1 s1 n1 tt mm (pc + 2) L (rv w nn :: st)) : GP w p l e R s m args below meth c A Q nL cells slots nn tt mm pc L (iv x :: st) := by
  intro hz H locs ls hP hZ hS hl
  subst e1
  subst e2
  subst e3
  subst hN
  have hts := C.2.2.2.2.1
  refine va_newaK (atype := .long) C.1 C.2.1 (hts _ hac) rfl hd rfl h0 hx hb hcs.1 hcs.2 hZ fun H1 cA e1 z1 o1 hAr hNm => ?_
  refine k (fun k hk j => hz k (by omega) j) H1 locs ls (new_ok hP hZ o1 ?_) (by omega) ⟨Nat.le_trans hS.1 (by omega), fun x h1 h2 => (o1 x (by have := hS.1; omega)).trans (hS.2.1 x h1 h2), hS.2.2⟩ hl
  have hA := (C.2.2.2.2.2.1.2 3 _ rfl).2
  have hcA : cA = w.2.2 3 := Option.some.inj (hNm.symm.trans hA)
  rw [ep23 ht]
  show H1[w.2.1 + nn]? = some (vp_cell (w.2.2 3) (ln nn, .inr (.inl (fun j => Int64.ofInt (SG mm nn j)))))
  rw [vp_cell_l, e1, hcA]
  congr 1
  exact arrV_ext (fun j hj => by rw [hz nn (Nat.le_refl _) j]; rfl)

theorem h_anew {idx N n1 c1 s1 : Nat} {x : Int} (C : CxP w p s m args c A cc own nL) (hd : decode cc pc = .ok (.anewarray idx, 3)) (ht : tg nn = 24) (hN : ln nn = N) (hx : (Int32.ofInt x).toNatClampNeg = N) (h0 : ¬ Int32.ofInt x < 0) (hcl : Cond.classLink own idx "HushNet$Agent" ∈ TB) (hb : N * 4 ≤ 536870912) (hq : ∀ j, j < ln nn → tt ≤ qa nn j) (hcs : cells + 1 ≤ R.cells ∧ slots + N ≤ R.slots) (e1 : nn + 1 = n1) (e2 : cells + 1 = c1) (e3 : slots + N = s1)
    (k : GP w p l e R s m args below meth c A Q nL c1 s1 n1 tt mm (pc + 3) L (rv w nn :: st)) : GP w p l e R s m args below meth c A Q nL cells slots nn tt mm pc L (iv x :: st) := by
  intro hz H locs ls hP hZ hS hl
  subst e1
  subst e2
  subst e3
  subst hN
  have hts := C.2.2.2.2.1
  refine W.anew C.1 C.2.1 C.2.2.2.1 (hts _ hcl) (va_AO.use C.2.2.2.2.2.2.2.2.2.2.2.2.2.1) rfl hd rfl h0 (by rw [hx]; exact hb) hcs.1 (by rw [hx]; exact hcs.2) fun cA kA comp f1 f2 f3 f4 => ?_
  rw [hx]
  generalize hH1 : H.push ({ cls := cA, slots := Array.replicate (ln nn) .null, vm := .none } : Cell) = H1
  have z1 : H1.size = H.size + 1 := by rw [← hH1, Array.size_push]
  have e1 : H1[H.size]? = some (arrV cA (ln nn) (fun _ => .null)) := by rw [← hH1, Array.getElem?_push_size, ← arrV_new]
  have o1 : ∀ q : Nat, q < w.2.1 + nn → H1[q]? = H[q]? := fun q hq => by rw [← hH1, Array.getElem?_push, if_neg (by omega)]
  rw [hZ] at e1 z1
  have hk9 := k (fun k hk j => hz k (by omega) j) H1 locs ls (new_ok hP hZ o1 ?_) (by omega) ⟨Nat.le_trans hS.1 (by omega), fun x h1 h2 => (o1 x (by have := hS.1; omega)).trans (hS.2.1 x h1 h2), hS.2.2⟩ hl
  · show W p l e R s m args below meth c H1 locs (cells + 1) (slots + ln nn) Q (F0 m (pc + 3) ls (.ref H.size :: st))
    rw [hZ]
    exact hk9
  · obtain ⟨-, -, -, -, -, hA⟩ := (C.2.2.2.2.2.1.2 4 _ rfl).2
    have hcA : cA = w.2.2 4 := Option.some.inj (f1.symm.trans hA)
    rw [ep24 ht]
    show H1[w.2.1 + nn]? = some (vp_cell (w.2.2 4) (ln nn, .inr (.inr (.inr (.inr (rarr w tt nn))))))
    rw [vp_cell_q, e1, hcA]
    congr 1
    refine arrV_ext (fun j hj => ?_)
    unfold rarr rfp
    rw [if_pos hj, if_neg (by have := hq j hj; omega)]
    rfl
end GH
