/-! DISTANCES: pure mathematics -/
def cnt (p : Nat → Bool) : Nat → Nat
  | 0 => 0
  | n + 1 => cnt p n + (if p n = true then 1 else 0)
theorem cnt_le (p : Nat → Bool) (n : Nat) : cnt p n ≤ n := by
  induction n with
  | zero => exact Nat.le_refl _
  | succ n ih => unfold cnt; split <;> omega
theorem cnt_mono {p q : Nat → Bool} {n : Nat} (h : ∀ i, i < n → p i = true → q i = true) : cnt p n ≤ cnt q n := by
  induction n with
  | zero => exact Nat.le_refl _
  | succ n ih =>
    have i1 := ih (fun i hi => h i (by omega))
    have i2 := h n (by omega)
    unfold cnt
    by_cases hp : p n = true
    · rw [if_pos hp, if_pos (i2 hp)]; omega
    · rw [if_neg hp]; omega
theorem cnt_lt {p q : Nat → Bool} {n x : Nat} (h : ∀ i, i < n → p i = true → q i = true) (hx : x < n) (hp : ¬ p x = true) (hq : q x = true) : cnt p n + 1 ≤ cnt q n := by
  induction n with
  | zero => omega
  | succ n ih =>
    unfold cnt
    by_cases hxn : x = n
    · subst hxn
      rw [if_neg hp, if_pos hq]
      have := cnt_mono (p := p) (q := q) (n := x) (fun i hi => h i (by omega))
      omega
    · have i1 := ih (fun i hi => h i (by omega)) (by omega)
      have i2 := h n (by omega)
      by_cases hp' : p n = true
      · rw [if_pos hp', if_pos (i2 hp')]; omega
      · rw [if_neg hp']; omega
/-- ways between the ten spots, of length 1 to 9, both ways round -/
def isE (E : Nat → Nat → Int → Prop) : Prop := ∀ a x l, E a x l → a < 10 ∧ x < 10 ∧ 1 ≤ l ∧ l ≤ 9 ∧ E x a l
theorem dm_le {E : Nat → Nat → Int → Prop} {M : Nat → Nat → Int} (hE : isE E) (hM : isDM E M) : ∀ (k a b : Nat) (l : Int), a < 10 → b < 10 → Walk E k a b l → M a b ≤ l := by
  intro k
  induction k with
  | zero =>
    rintro a b l ha hb ⟨h1, h2⟩
    subst h1; subst h2
    rw [hM.2.1 a ha]; exact Int.le_refl _
  | succ k ih =>
    rintro a b l ha hb ⟨x, l1, l2, h1, h2, h3⟩
    have hx := (hE a x l1 h1).2.1
    have i1 := ih x b l2 hx hb h2
    have i2 := hM.2.2.1 a x l1 b ha hx hb h1
    omega
theorem dm_uniq {E : Nat → Nat → Int → Prop} {M N : Nat → Nat → Int} (hE : isE E) (hM : isDM E M) (hN : isDM E N) {a b : Nat} (ha : a < 10) (hb : b < 10) : M a b = N a b := by
  have m1 := hM.1 a b ha hb
  have n1 := hN.1 a b ha hb
  have h1 : N a b ≤ M a b := by
    by_cases h : M a b < 1000
    · obtain ⟨k, hk⟩ := hM.2.2.2 a b ha hb h
      exact dm_le hE hN k a b _ ha hb hk
    · omega
  have h2 : M a b ≤ N a b := by
    by_cases h : N a b < 1000
    · obtain ⟨k, hk⟩ := hN.2.2.2 a b ha hb h
      exact dm_le hE hM k a b _ ha hb hk
    · omega
  omega
theorem walk_app {E : Nat → Nat → Int → Prop} : ∀ (k a x : Nat) (l1 : Int) (m b : Nat) (l2 : Int), Walk E k a x l1 → Walk E m x b l2 → Walk E (k + m) a b (l1 + l2) := by
  intro k
  induction k with
  | zero =>
    rintro a x l1 m b l2 ⟨h1, h2⟩ hw
    subst h1; subst h2
    rw [Nat.zero_add, Int.zero_add]; exact hw
  | succ k ih =>
    rintro a x l1 m b l2 ⟨y, l3, l4, h1, h2, h3⟩ hw
    rw [show k + 1 + m = (k + m) + 1 by omega]
    exact ⟨y, l3, l4 + l2, h1, ih y x l4 m b l2 h2 hw, by omega⟩
theorem walk_one {E : Nat → Nat → Int → Prop} {a b : Nat} {l : Int} (h : E a b l) : Walk E 1 a b l := ⟨b, l, 0, h, ⟨rfl, rfl⟩, by omega⟩
theorem walk_mono {E E' : Nat → Nat → Int → Prop} (h : ∀ a b l, E a b l → E' a b l) : ∀ (k a b : Nat) (l : Int), Walk E k a b l → Walk E' k a b l := by
  intro k
  induction k with
  | zero => intro a b l hw; exact hw
  | succ k ih =>
    rintro a b l ⟨x, l1, l2, h1, h2, h3⟩
    exact ⟨x, l1, l2, h _ _ _ h1, ih _ _ _ h2, h3⟩
theorem walk_end {E : Nat → Nat → Int → Prop} : ∀ (k a b : Nat) (l : Int), Walk E k a b l → a = b ∨ ((∃ x m, E a x m) ∧ ∃ y m, E y b m) := by
  intro k
  induction k with
  | zero => intro a b l hw; exact Or.inl hw.1
  | succ k ih =>
    rintro a b l ⟨x, l1, l2, h1, h2, h3⟩
    rcases ih x b l2 h2 with q | ⟨-, q⟩
    · subst q; exact Or.inr ⟨⟨x, l1, h1⟩, ⟨a, l1, h1⟩⟩
    · exact Or.inr ⟨⟨x, l1, h1⟩, q⟩
theorem dm_tri {E : Nat → Nat → Int → Prop} {M : Nat → Nat → Int} (hE : isE E) (hM : isDM E M) {a x b : Nat} (ha : a < 10) (hx : x < 10) (hb : b < 10) : M a b ≤ M a x + M x b := by
  have h1 := hM.1 a b ha hb
  have h2 := hM.1 a x ha hx
  have h3 := hM.1 x b hx hb
  by_cases h : M a x < 1000
  · by_cases h' : M x b < 1000
    · obtain ⟨k, hk⟩ := hM.2.2.2 a x ha hx h
      obtain ⟨m, hm⟩ := hM.2.2.2 x b hx hb h'
      exact dm_le hE hM _ a b _ ha hb (walk_app k a x _ m b _ hk hm)
    · omega
  · omega
theorem dm_bound {E : Nat → Nat → Int → Prop} {M : Nat → Nat → Int} (hE : isE E) (hM : isDM E M) {b : Nat} (hb : b < 10) : ∀ (d a : Nat), a < 10 → M a b = d → M a b < 1000 → d ≤ 9 * cnt (fun y => decide (M y b < d)) 10 := by
  intro d
  induction d using Nat.strongRecOn with
  | ind d ih =>
    intro a ha hd hlt
    obtain ⟨k, hk⟩ := hM.2.2.2 a b ha hb hlt
    cases k with
    | zero =>
      obtain ⟨h1, h2⟩ := hk
      omega
    | succ k =>
      obtain ⟨x, l1, l2, h1, h2, h3⟩ := hk
      obtain ⟨-, hx, h4, h5, -⟩ := hE a x l1 h1
      have i1 := dm_le hE hM k x b l2 hx hb h2
      have i2 := hM.2.2.1 a x l1 b ha hx hb h1
      have i3 := hM.1 x b hx hb
      have e1 : M x b = ((M x b).toNat : Int) := by omega
      have i4 := ih (M x b).toNat (by omega) x hx e1 (by omega)
      have i5 := cnt_lt (p := fun y => decide (M y b < ((M x b).toNat : Int))) (q := fun y => decide (M y b < (d : Int))) (n := 10) (x := x) (fun i _ hi => by simp only [decide_eq_true_eq] at hi ⊢; omega) hx (by simp only [decide_eq_true_eq]; omega) (by simp only [decide_eq_true_eq]; omega)
      omega
theorem dm_90 {E : Nat → Nat → Int → Prop} {M : Nat → Nat → Int} (hE : isE E) (hM : isDM E M) {a b : Nat} (ha : a < 10) (hb : b < 10) (h : M a b < 1000) : M a b ≤ 90 := by
  have h0 := hM.1 a b ha hb
  have h1 := dm_bound hE hM hb (M a b).toNat a ha (by omega) h
  have h2 := cnt_le (fun y => decide (M y b < ((M a b).toNat : Int))) 10
  omega
/-- off the ways there is but the way of no length -/
theorem dm_off {E : Nat → Nat → Int → Prop} {M : Nat → Nat → Int} (hM : isDM E M) {a b : Nat} (ha : a < 10) (hb : b < 10) (hab : a ≠ b) (ho : (∀ x m, ¬ E a x m) ∨ (∀ y m, ¬ E y b m)) : M a b = 1000 := by
  have h1 := hM.1 a b ha hb
  by_cases h : M a b < 1000
  · obtain ⟨k, hk⟩ := hM.2.2.2 a b ha hb h
    rcases walk_end k a b _ hk with q | ⟨⟨x, m, q1⟩, ⟨y, m', q2⟩⟩
    · exact absurd q hab
    · rcases ho with o | o
      · exact absurd q1 (o x m)
      · exact absurd q2 (o y m')
  · omega
/-- one way more -/
def Emore (E : Nat → Nat → Int → Prop) (a b : Nat) (l : Int) : Nat → Nat → Int → Prop := fun x y m => E x y m ∨ (m = l ∧ ((x = a ∧ y = b) ∨ (x = b ∧ y = a)))
def Fm (O : Nat → Nat → Int) (a b : Nat) (l : Int) (x y : Nat) : Int := min (O x y) (min (O x a + l + O b y) (O x b + l + O a y))
theorem Fm_dm {E : Nat → Nat → Int → Prop} {O : Nat → Nat → Int} {a b : Nat} {l : Int} (hE : isE E) (hO : isDM E O) (ha : a < 10) (hb : b < 10) (hl : 1 ≤ l ∧ l ≤ 9) : isDM (Emore E a b l) (Fm O a b l) := by
  have oa := hO.2.1 a ha
  have ob := hO.2.1 b hb
  refine ⟨?_, ?_, ?_, ?_⟩
  · intro x y hx hy
    have h1 := hO.1 x y hx hy
    have h2 := hO.1 x a hx ha
    have h3 := hO.1 b y hb hy
    have h4 := hO.1 x b hx hb
    have h5 := hO.1 a y ha hy
    unfold Fm
    omega
  · intro x hx
    have h1 := hO.2.1 x hx
    have h2 := hO.1 x a hx ha
    have h3 := hO.1 b x hb hx
    have h4 := hO.1 x b hx hb
    have h5 := hO.1 a x ha hx
    unfold Fm
    omega
  · rintro x y m q hx hy hq (he | ⟨rfl, (⟨rfl, rfl⟩ | ⟨rfl, rfl⟩)⟩)
    · have h1 := hO.2.2.1 x y m q hx hy hq he
      have h2 := hO.2.2.1 x y m a hx hy ha he
      have h3 := hO.2.2.1 x y m b hx hy hb he
      unfold Fm
      omega
    · have h1 := hO.1 x q hx hq
      have h2 := hO.1 y q hy hq
      have h3 := hO.1 x y hx hy
      have h4 := hO.1 y x hy hx
      unfold Fm
      omega
    · have h1 := hO.1 x q hx hq
      have h2 := hO.1 y q hy hq
      have h3 := hO.1 x y hx hy
      have h4 := hO.1 y x hy hx
      unfold Fm
      omega
  · intro x y hx hy hlt
    have h1 := hO.1 x y hx hy
    have h2 := hO.1 x a hx ha
    have h3 := hO.1 b y hb hy
    have h4 := hO.1 x b hx hb
    have h5 := hO.1 a y ha hy
    have hmo := walk_mono (E := E) (E' := Emore E a b l) (fun _ _ _ h => Or.inl h)
    have hc : (Fm O a b l x y = O x y ∧ O x y < 1000) ∨ (Fm O a b l x y = O x a + l + O b y ∧ O x a < 1000 ∧ O b y < 1000) ∨ (Fm O a b l x y = O x b + l + O a y ∧ O x b < 1000 ∧ O a y < 1000) := by
      unfold Fm at hlt ⊢
      omega
    rcases hc with ⟨q1, q2⟩ | ⟨q1, q2, q3⟩ | ⟨q1, q2, q3⟩
    · obtain ⟨k, hk⟩ := hO.2.2.2 x y hx hy q2
      rw [q1]; exact ⟨k, hmo _ _ _ _ hk⟩
    · obtain ⟨k, hk⟩ := hO.2.2.2 x a hx ha q2
      obtain ⟨m, hm⟩ := hO.2.2.2 b y hb hy q3
      rw [q1]
      exact ⟨_, walk_app _ _ _ _ _ _ _ (walk_app _ _ _ _ _ _ _ (hmo _ _ _ _ hk) (walk_one (Or.inr ⟨rfl, Or.inl ⟨rfl, rfl⟩⟩))) (hmo _ _ _ _ hm)⟩
    · obtain ⟨k, hk⟩ := hO.2.2.2 x b hx hb q2
      obtain ⟨m, hm⟩ := hO.2.2.2 a y ha hy q3
      rw [q1]
      exact ⟨_, walk_app _ _ _ _ _ _ _ (walk_app _ _ _ _ _ _ _ (hmo _ _ _ _ hk) (walk_one (Or.inr ⟨rfl, Or.inr ⟨rfl, rfl⟩⟩))) (hmo _ _ _ _ hm)⟩
theorem Emore_isE {E : Nat → Nat → Int → Prop} {a b : Nat} {l : Int} (hE : isE E) (ha : a < 10) (hb : b < 10) (hl : 1 ≤ l ∧ l ≤ 9) : isE (Emore E a b l) := by
  rintro x y m (h | ⟨rfl, (⟨rfl, rfl⟩ | ⟨rfl, rfl⟩)⟩)
  · obtain ⟨h1, h2, h3, h4, h5⟩ := hE x y m h
    exact ⟨h1, h2, h3, h4, Or.inl h5⟩
  · exact ⟨ha, hb, hl.1, hl.2, Or.inr ⟨rfl, Or.inr ⟨rfl, rfl⟩⟩⟩
  · exact ⟨hb, ha, hl.1, hl.2, Or.inr ⟨rfl, Or.inl ⟨rfl, rfl⟩⟩⟩
theorem isDM_cg {E E' : Nat → Nat → Int → Prop} {M M' : Nat → Nat → Int} (h : isDM E M) (hE : ∀ a b l, E' a b l ↔ E a b l) (hM : ∀ a b, a < 10 → b < 10 → M' a b = M a b) : isDM E' M' := by
  have : E' = E := by
    funext a b l
    exact propext (hE a b l)
  subst this
  refine ⟨?_, ?_, ?_, ?_⟩
  · intro a b ha hb; rw [hM a b ha hb]; exact h.1 a b ha hb
  · intro a ha; rw [hM a a ha ha]; exact h.2.1 a ha
  · intro a x l b ha hx hb he; rw [hM a b ha hb, hM x b hx hb]; exact h.2.2.1 a x l b ha hx hb he
  · intro a b ha hb hlt; rw [hM a b ha hb] at hlt ⊢; exact h.2.2.2 a b ha hb hlt
/-- one phase of the model's reckoning: by way of k -/
def Nx (O : Nat → Nat → Int) (k x y : Nat) : Int := min (O x y) (O x k + O k y)
def isPh (E : Nat → Nat → Int → Prop) (D A : Nat → Nat → Int) (k : Nat) : Prop :=
  (∀ a b, a < 10 → b < 10 → 0 ≤ A a b ∧ A a b ≤ 1000 ∧ A a b ≤ D a b) ∧ (∀ a, a < 10 → A a a = 0) ∧
  (∀ j a b, j < k → j < 10 → a < 10 → b < 10 → A a b ≤ A a j + A j b) ∧
  (∀ a b, a < 10 → b < 10 → A a b < 1000 → ∃ k, Walk E k a b (A a b))
theorem Nx_ph {E : Nat → Nat → Int → Prop} {D A : Nat → Nat → Int} {k : Nat} (hk : k < 10) (h : isPh E D A k) : isPh E D (Nx A k) (k + 1) := by
  obtain ⟨h1, h2, h3, h4⟩ := h
  have hkk := h2 k hk
  refine ⟨?_, ?_, ?_, ?_⟩
  · intro a b ha hb
    have i1 := h1 a b ha hb
    have i2 := h1 a k ha hk
    have i3 := h1 k b hk hb
    unfold Nx; omega
  · intro a ha
    have i1 := h2 a ha
    have i2 := h1 a k ha hk
    have i3 := h1 k a hk ha
    unfold Nx; omega
  · intro j a b hj hj10 ha hb
    have i1 := h1 a b ha hb
    have i2 := h1 a k ha hk
    have i3 := h1 k b hk hb
    have i4 := h1 a j ha hj10
    have i5 := h1 j b hj10 hb
    have i6 := h1 k j hk hj10
    have i7 := h1 j k hj10 hk
    by_cases hjk : j = k
    · subst hjk
      unfold Nx; omega
    · have j1 := h3 j a b (by omega) hj10 ha hb
      have j2 := h3 j a k (by omega) hj10 ha hk
      have j3 := h3 j k b (by omega) hj10 hk hb
      unfold Nx; omega
  · intro a b ha hb hlt
    have i1 := h1 a b ha hb
    have i2 := h1 a k ha hk
    have i3 := h1 k b hk hb
    have hc : (Nx A k a b = A a b ∧ A a b < 1000) ∨ (Nx A k a b = A a k + A k b ∧ A a k < 1000 ∧ A k b < 1000) := by
      unfold Nx at hlt ⊢
      omega
    rcases hc with ⟨q1, q2⟩ | ⟨q1, q2, q3⟩
    · rw [q1]; exact h4 a b ha hb q2
    · obtain ⟨m, hm⟩ := h4 a k ha hk q2
      obtain ⟨n, hn⟩ := h4 k b hk hb q3
      rw [q1]
      exact ⟨_, walk_app _ _ _ _ _ _ _ hm hn⟩
theorem Ph_dm {E : Nat → Nat → Int → Prop} {D A : Nat → Nat → Int} (h : isPh E D A 10) (hD : ∀ a x l, a < 10 → x < 10 → E a x l → D a x ≤ l) : isDM E A := by
  obtain ⟨h1, h2, h3, h4⟩ := h
  refine ⟨fun a b ha hb => ⟨(h1 a b ha hb).1, (h1 a b ha hb).2.1⟩, h2, ?_, h4⟩
  intro a x l b ha hx hb he
  have i1 := h1 a x ha hx
  have i2 := hD a x l ha hx he
  have i3 := h3 x a b hx hx ha hb
  omega
