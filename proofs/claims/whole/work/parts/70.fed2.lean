/-! fed: the call -/
/-- whom a word that agent i alone was given can have reached, by the end: the suspects among them -/
def RP (c : Ky) (sus by' : Int) (i : Nat) (s : Nat) : Prop := (s < c.2.2.1 ∧ ∃ b, FsI (c.1, c.2.1, c.2.2.1, (fun k => tb (shlI 1 (i : Int)) k = true), c.2.2.2.2) (96 - c.2.2.2.2.2) s b ∧ b ≠ -1 ∧ b ≤ by') ∧ tb sus s = true
theorem KN_165 {σ τ : St} {n x : Int} {i : Nat} (h : KN σ τ n) : KN σ (up τ 165 i x) n := by
  obtain ⟨h1, h2, h3, h4⟩ := h
  refine ⟨Wr_up h1 rfl, by rw [up_cell (by decide)]; exact h2, ?_, ?_⟩
  · intro f hf; rw [up_cell (by decide)]; exact h3 f hf
  · intro t ht; rw [up_cell (by decide)]; exact h4 t ht
theorem reach_c {c : Ky} {τ0 : St} {sus by' drops : Int} (hT : iTown c.1) (hA : c.2.2.1 ≤ 8) (ht : c.2.2.2.2.2 < 96) (hsus : InI sus) (hK : KN c.1 τ0 c.2.1) (hR : ∀ a, a < c.2.2.1 → RowC c.1 c.2.1 a τ0) (hd : c.2.2.2.2.1 ↔ ¬ drops = 0) (h06 : τ0 0 6 = (c.2.2.1 : Int)) :
    Hp (lp (fun z => m_X11_fed_L65 (c.2.2.2.2.2 : Int) drops by' sus z.1 z.2) (0, τ0)) (fun τ => KN c.1 τ c.2.1 ∧ (∀ k, k ∉ [165] → 164 ≤ k → τ k = τ0 k) ∧ ∀ i, i < c.2.2.1 → Bs (τ 165 i) (RP c sus by' i)) := by
  refine Hp_up (fun j (z : Int × St) => z.1 = (j : Int) ∧ KN c.1 z.2 c.2.1 ∧ (∀ a, a < c.2.2.1 → RowC c.1 c.2.1 a z.2) ∧ (∀ k, k ∉ [165] → 164 ≤ k → z.2 k = τ0 k) ∧ (z.2 0 6 = (c.2.2.1 : Int)) ∧ ∀ i, i < j → Bs (z.2 165 i) (RP c sus by' i)) 0 c.2.2.1 (by omega) (by omega) ⟨rfl, hK, hR, fun _ _ _ => rfl, h06, fun i h => by omega⟩ ?_ ?_
  · rintro i ⟨x, τ⟩ - hi ⟨e1, e2, e3, e4, e5, e6⟩
    simp only at e1 e2 e3 e4 e5 e6
    subst e1
    simp only [m_X11_fed_L65]
    rw [if_neg (by omega), if_neg (by omega), e5, Hp_bind]
    refine Hp_mono (spread_sp (c := (c.1, c.2.1, c.2.2.1, (fun k => tb (shlI 1 (i : Int)) k = true), c.2.2.2.2)) (set := shlI 1 (i : Int)) (drops := drops) hT hA ht e2 e3 (fun _ => Iff.rfl) hd) ?_
    rintro τ2 ⟨w2, K2, R2, f1, f2⟩
    simp only at K2 R2 f1 f2
    rw [Hp_bind]
    refine Hp_mono knowers_sp ?_
    intro y hy
    rw [Hp_bind, Hp_wt]
    refine ⟨by omega, ?_⟩
    rw [Int.toNat_natCast, Hp_some, Lq_inl, nx1 (by omega)]
    have hrow : ∀ k, 164 ≤ k → τ2 k = τ k := by
      intro k hk
      funext j
      apply w2
      simp only [inR, inC, inS, List.any_cons, List.any_nil, Bool.or_false, Bool.or_eq_false_iff, Bool.and_eq_false_iff]
      simp only [Bool.eq_false_iff, ne_eq, Nat.ble_eq]
      omega
    refine ⟨rfl, KN_165 K2, ?_, ?_, ?_, ?_⟩
    · intro a ha t ht2
      simp only
      rw [up_cell (by omega), up_cell (by omega)]
      exact R2 a ha t ht2
    · intro k hk hk2
      simp only
      simp only [List.mem_singleton] at hk
      rw [up_ne k hk, hrow k hk2]
      exact e4 k (by simpa using hk) hk2
    · simp only
      rw [up_cell (by decide), w2 0 6 rfl]; exact e5
    · intro i' hi'
      simp only
      by_cases hii : i' = i
      · subst hii
        rw [up_eq]
        refine Bs_cg (Bs_and hy ⟨hsus, fun s => Iff.rfl⟩) ?_
        intro s
        unfold RP
        constructor
        · rintro ⟨⟨q1, q2, q3⟩, q4⟩
          refine ⟨?_, q4⟩
          by_cases hs : s < c.2.2.1
          · exact ⟨hs, _, f1 s hs, q2, q3⟩
          · exact absurd (f2 s (by omega) q1) q2
        · rintro ⟨⟨q1, b, q2, q3, q4⟩, q5⟩
          have := FsI_uniq q2 (f1 s q1)
          subst this
          exact ⟨⟨by omega, q3, q4⟩, q5⟩
      · rw [up_slot hii, hrow 165 (by decide)]
        exact e6 i' (by omega)
  · rintro ⟨x, τ⟩ ⟨e1, e2, e3, e4, e5, e6⟩
    simp only at e1 e2 e3 e4 e5 e6
    subst e1
    simp only [m_X11_fed_L65]
    rw [if_pos (by omega), Hp_some, Lq_inr]
    exact ⟨e2, e4, e6⟩
theorem MC_230 {c : Ky} {τ τ' : St} (h : MC c τ) (hw : Wr ([(226, 233)], []) τ τ') : MC c τ' := by
  obtain ⟨h1, h2, h3⟩ := h
  refine ⟨?_, (hw 170 35 rfl).trans h2, ?_⟩
  · intro k j hk
    rw [← h1 k j hk]
    rcases hk with q | q | q | ⟨q, q' | q'⟩
    · subst q; exact hw _ _ rfl
    · subst q; exact hw _ _ rfl
    · subst q; exact hw _ _ rfl
    · subst q; subst q'; exact hw _ _ rfl
    · subst q; subst q'; exact hw _ _ rfl
  · intro a ha
    refine ⟨fun d hd => ?_, fun d s hd hs => ?_⟩
    · rw [hw 225 _ rfl]; exact (h3 a ha).1 d hd
    · rw [hw 221 _ rfl]; exact (h3 a ha).2 d s hd hs
theorem reach_m {c : Ky} {τ0 : St} {sus by' drops : Int} {S : Nat → Bool} {r : Nat → Int} (hT : iTown c.1) (hA : c.2.2.1 ≤ 8) (ht : c.2.2.2.2.2 < 96) (hsus : InI sus) (hM : ∀ Sf : Nat → Prop, MC (c.1, c.2.1, c.2.2.1, Sf, c.2.2.2.2) τ0) (hd : c.2.2.2.2.1 ↔ ¬ drops = 0) (hS : ∀ i, i < 8 → (S i = true ↔ tb sus i = true)) (hSA : ∀ i, i < 8 → S i = true → i < c.2.2.1) (hr : ∀ i, i < c.2.2.1 → Bs (r i) (RP c sus by' i)) :
    Hp (lp (fun z => m_X12_fed_L72 sus (c.2.2.2.2.2 : Int) drops by' z.1 z.2.1 z.2.2) (0, 0, τ0)) (fun q => q.1 = ((cnt S 8 : Nat) : Int) ∧ Wr ([(226, 227), (230, 231)], []) τ0 q.2 ∧ RwM S r q.2) := by
  have f35 := (hM (fun _ => False)).2.1
  simp only at f35
  refine Hp_up (fun j (z : Int × Int × St) => z.2.1 = (j : Int) ∧ z.1 = ((cnt S j : Nat) : Int) ∧ Wr ([(226, 227), (230, 231)], []) τ0 z.2.2 ∧ ∀ i, i < j → S i = true → z.2.2 231 (cnt S i) = (i : Int) ∧ z.2.2 230 i = r i) 0 c.2.2.1 (by omega) (by omega) ⟨rfl, rfl, Wr_rf, fun i h => by omega⟩ ?_ ?_
  · rintro j ⟨sz, x, τ⟩ - hj ⟨e1, e2, e3, e4⟩
    simp only at e1 e2 e3 e4
    subst e1; subst e2
    have hcj := cnt_le S j
    have g35 : τ 170 35 = (c.2.2.1 : Int) := (e3 170 35 rfl).trans f35
    simp only [m_X12_fed_L72]
    rw [if_neg (by omega), bit_at sus (by omega)]
    by_cases hb : tb sus j = true
    · have hSj := (hS j (by omega)).mpr hb
      rw [if_pos hb, if_neg (by decide), Hp_bind]
      have hMc := MC_230 (hM (fun k => tb (shlI 1 (j : Int)) k = true)) (Wr_sb e3 rfl)
      refine Hp_mono (spreads_sp (c := (c.1, c.2.1, c.2.2.1, (fun k => tb (shlI 1 (j : Int)) k = true), c.2.2.2.2)) (set := shlI 1 (j : Int)) (drops := drops) hT hA ht hMc (fun _ => Iff.rfl) hd) ?_
      rintro τ2 ⟨w2, hSp⟩
      rw [Hp_bind]
      refine Hp_mono (know_sp (c := (c.1, c.2.1, c.2.2.1, (fun k => tb (shlI 1 (j : Int)) k = true), c.2.2.2.2)) hT hA ht hSp) ?_
      intro y hy
      rw [Hp_bind, Hp_wt]
      refine ⟨by omega, ?_⟩
      rw [Hp_bind, Hp_wt]
      refine ⟨by omega, ?_⟩
      simp only [Int.toNat_natCast]
      rw [Hp_some, Lq_inl, nx1 (by omega), nx1 (by omega), cnt_s hSj]
      have hyr : andI y sus = r j := by
        refine Bs_ext (Bs_and hy ⟨hsus, fun s => Iff.rfl⟩) (hr j hj) ?_
        intro s
        exact Iff.rfl
      refine ⟨rfl, rfl, Wr_up (Wr_up (Wr_tr e3 (Wr_sb w2 rfl)) rfl) rfl, ?_⟩
      intro i hi hSi
      simp only
      by_cases hij : i = j
      · subst hij
        refine ⟨up_eq _ _ _ _, ?_⟩
        rw [up_cell (by decide), up_eq]; exact hyr
      · have hne : cnt S i ≠ cnt S j := fun q => hij (cnt_inj hSi hSj q)
        rw [up_slot hne, up_cell (by decide), up_cell (by decide), up_slot hij, w2 231 _ rfl, w2 230 _ rfl]
        exact e4 i (by omega) hSi
    · have hSj : ¬ S j = true := fun q => hb ((hS j (by omega)).mp q)
      rw [if_neg hb, if_pos rfl, Hp_some, Lq_inl, nx1 (by omega), cnt_n hSj]
      refine ⟨rfl, rfl, e3, ?_⟩
      intro i hi hSi
      by_cases hij : i = j
      · subst hij; exact absurd hSi hSj
      · exact e4 i (by omega) hSi
  · rintro ⟨sz, x, τ⟩ ⟨e1, e2, e3, e4⟩
    simp only at e1 e2 e3 e4
    subst e1; subst e2
    have g35 : τ 170 35 = (c.2.2.1 : Int) := (e3 170 35 rfl).trans f35
    simp only [m_X12_fed_L72]
    rw [if_pos (by omega), Hp_some, Lq_inr]
    have hcc : cnt S 8 = cnt S c.2.2.1 := by
      have key : ∀ d, c.2.2.1 + d ≤ 8 → cnt S (c.2.2.1 + d) = cnt S c.2.2.1 := by
        intro d
        induction d with
        | zero => intro _; rfl
        | succ d ih =>
          intro hd8
          have h1 : ¬ S (c.2.2.1 + d) = true := fun q => by have := hSA _ (by omega) q; omega
          rw [show c.2.2.1 + (d + 1) = (c.2.2.1 + d) + 1 by omega, cnt_n h1]
          exact ih (by omega)
      have := key (8 - c.2.2.1) (by omega)
      rw [show c.2.2.1 + (8 - c.2.2.1) = 8 by omega] at this
      exact this
    refine ⟨by simp only; rw [hcc], e3, fun i hi hSi => e4 i (hSA i hi hSi) hSi⟩
theorem q_m (j : Int) (τ : St) : m_X12_fed_L239 j τ = if (8 : Int) ≤ j then some (.inr τ) else (wt τ 228 8 j (-1)).bind fun τ' => some (.inl (wr (j + 1), τ')) := by rw [m_X12_fed_L239]
/-- the model writes down what it found -/
theorem keep_m {S : Nat → Bool} {W m : Nat} {r : Nat → Int} {τ0 : St} (hR : RwM S r τ0) (h232 : ∀ i, i < 8 → S i = true → τ0 232 (cnt S i) = (dg S W m i : Int)) (h233 : ∀ w, w < 3 → Bs (τ0 233 w) (Kw S W r m w)) :
    ∃ τ1 τ2 τ3, lp (fun a => m_X12_fed_L239 a.1 a.2) (0, τ0) = some τ1 ∧ lp (fun a => m_X12_fed_L263 ((cnt S 8 : Nat) : Int) a.1 a.2) (0, τ1) = some τ2 ∧ lp (fun a => m_X12_fed_L298 a.1 a.2) (0, τ2) = some τ3 ∧ Wr ([(228, 229)], []) τ0 τ3 ∧ (∀ i, i < 8 → τ3 228 i = dgI S W m i) ∧ ∀ w, w < 3 → τ3 229 w = (pk S W r m w : Int) := by
  have hc8 := cnt_le S 8
  obtain ⟨τ1, o1, w1, z1⟩ := fill_sp (f := fun a => m_X12_fed_L239 a.1 a.2) (σ := τ0) (c := 228) (N := 8) (NI := 8) (v := -1) (by omega) (by omega) q_m
  have hL : Hp (lp (fun a => m_X12_fed_L263 ((cnt S 8 : Nat) : Int) a.1 a.2) (0, τ1)) (fun τ => Wr ([(228, 228)], []) τ0 τ ∧ ∀ i, i < 8 → τ 228 i = dgI S W m i) := by
    refine Hp_up (fun j (z : Int × St) => z.1 = (j : Int) ∧ Wr ([(228, 228)], []) τ0 z.2 ∧ ∀ i, i < 8 → z.2 228 i = if S i = true ∧ cnt S i < j then (dg S W m i : Int) else -1) 0 (cnt S 8) (by omega) (by omega) ⟨rfl, w1, fun i hi => by simp only; rw [z1 i hi, if_neg (by omega)]⟩ ?_ ?_
    · rintro j ⟨x, τ⟩ - hj ⟨e1, e2, e3⟩
      simp only at e1 e2 e3
      subst e1
      obtain ⟨i0, i1, i2, i3⟩ := cnt_ex 8 hj
      have r1 := (hR i0 i1 i2).1
      rw [i3] at r1
      have r2 := h232 i0 i1 i2
      rw [i3] at r2
      simp only [m_X12_fed_L263]
      rw [if_neg (by omega), rd_ok (by omega) (by omega), bnd_s, rd_ok (by omega) (by omega), bnd_s]
      simp only [Int.toNat_natCast]
      rw [e2 231 j rfl, e2 232 j rfl, r1, r2, Hp_bind, Hp_wt]
      refine ⟨by omega, ?_⟩
      rw [Int.toNat_natCast, Hp_some, Lq_inl, nx1 (by omega)]
      refine ⟨rfl, Wr_up e2 rfl, ?_⟩
      intro i hi
      simp only
      by_cases hii : i = i0
      · subst hii
        rw [up_eq, if_pos ⟨i2, by omega⟩]
      · rw [up_slot hii, e3 i hi]
        by_cases hc : S i = true ∧ cnt S i < j
        · rw [if_pos hc, if_pos ⟨hc.1, by omega⟩]
        · rw [if_neg hc, if_neg]
          rintro ⟨q1, q2⟩
          have : cnt S i ≠ cnt S i0 := fun q => hii (cnt_inj q1 i2 q)
          exact hc ⟨q1, by omega⟩
    · rintro ⟨x, τ⟩ ⟨e1, e2, e3⟩
      simp only at e1 e2 e3
      subst e1
      simp only [m_X12_fed_L263]
      rw [if_pos (by omega), Hp_some, Lq_inr]
      refine ⟨e2, ?_⟩
      intro i hi
      rw [e3 i hi]
      unfold dgI
      by_cases hSi : S i = true
      · have h1 := cnt_s hSi
        have h2 := cnt_mn (S := S) (i := i + 1) (8 - (i + 1))
        rw [show i + 1 + (8 - (i + 1)) = 8 by omega] at h2
        rw [if_pos ⟨hSi, by omega⟩, if_pos hSi]
      · rw [if_neg (fun q => hSi q.1), if_neg hSi]
  obtain ⟨τ2, o2, w2, z2⟩ := hL
  have hL3 : Hp (lp (fun a => m_X12_fed_L298 a.1 a.2) (0, τ2)) (fun τ => Wr ([(229, 229)], []) τ2 τ ∧ ∀ w, w < 3 → τ 229 w = (pk S W r m w : Int)) := by
    refine Hp_up (fun j (z : Int × St) => z.1 = (j : Int) ∧ Wr ([(229, 229)], []) τ2 z.2 ∧ ∀ w, w < j → z.2 229 w = (pk S W r m w : Int)) 0 3 (by omega) (by omega) ⟨rfl, Wr_rf, fun i h => by omega⟩ ?_ ?_
    · rintro j ⟨x, τ⟩ - hj ⟨e1, e2, e3⟩
      simp only at e1 e2 e3
      subst e1
      have hb : Bs (τ 233 j) (Kw S W r m j) := by rw [e2 233 j rfl, w2 233 j rfl]; exact h233 j hj
      have hp : popc (τ 233 j) = pk S W r m j := popc_P hb
      simp only [m_X12_fed_L298]
      rw [if_neg (by omega), rd_ok (by omega) (by omega), bnd_s, Int.toNat_natCast, bits_sp, bnd_s, hp, Hp_bind, Hp_wt]
      refine ⟨by omega, ?_⟩
      rw [Int.toNat_natCast, Hp_some, Lq_inl, nx1 (by omega)]
      refine ⟨rfl, Wr_up e2 rfl, ?_⟩
      intro w hw
      simp only
      by_cases hwj : w = j
      · subst hwj; rw [up_eq]
      · rw [up_slot hwj]; exact e3 w (by omega)
    · rintro ⟨x, τ⟩ ⟨e1, e2, e3⟩
      simp only at e1 e2 e3
      subst e1
      simp only [m_X12_fed_L298]
      rw [if_pos (by omega), Hp_some, Lq_inr]
      exact ⟨e2, e3⟩
  obtain ⟨τ3, o3, w3, z3⟩ := hL3
  exact ⟨τ1, τ2, τ3, o1, o2, o3, Wr_tr (Wr_sb w2 rfl) (Wr_sb w3 rfl), fun i hi => by rw [w3 228 i rfl]; exact z2 i hi, z3⟩
