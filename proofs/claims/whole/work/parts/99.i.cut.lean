/-! the model's cut -/
/-- the model's text -/
def MTx (b : Nat → Int) (n : Nat) (σ : St) : Prop := (σ 170 4 = (n : Int) ∧ n ≤ 2000) ∧ (∀ p, p < n → andI (σ 172 p) 255 = b p) ∧ (∀ p, p < n → 0 ≤ b p ∧ b p ≤ 255) ∧ iKeys σ
theorem MTx_cg {b : Nat → Int} {n : Nat} {σ σ' : St} (h : MTx b n σ) (hw : Wr ([(173, 176)], [(170, 10)]) σ σ') : MTx b n σ' := by
  obtain ⟨⟨h1, h2⟩, h3, h4, h5⟩ := h
  refine ⟨⟨by rw [hw 170 4 rfl]; exact h1, h2⟩, fun p hp => by rw [hw 172 p rfl]; exact h3 p hp, h4, fun k hk => by rw [hw 177 k rfl]; exact h5 k hk⟩
theorem mAt {b : Nat → Int} {n p : Nat} {σ : St} (h : MTx b n σ) : m_X12_at (p : Int) σ = some (if p < n then b p else 0) := by
  obtain ⟨⟨h1, h2⟩, h3, -⟩ := h
  rw [m_X12_at, h1]
  by_cases hp : p < n
  · rw [if_neg (by omega), rd_ok (by omega) (by omega), bnd_s, Int.toNat_natCast, if_pos hp, h3 p hp]
  · rw [if_pos (by omega), if_neg hp]
theorem mLet {c : Int} {σ : St} : m_X12_isLetter c σ = some (if isL c = true then 1 else 0) := by
  rw [m_X12_isLetter]
  by_cases h1 : c < 97
  · rw [if_pos h1, if_neg (by rw [isL_sp]; omega)]
  · rw [if_neg h1]
    by_cases h2 : 122 < c
    · rw [if_pos h2, if_neg (by rw [isL_sp]; omega)]
    · rw [if_neg h2, if_pos (by rw [isL_sp]; omega)]
theorem mDig {c : Int} {σ : St} : m_X12_isDigit c σ = some (if isD c = true then 1 else 0) := by
  rw [m_X12_isDigit]
  by_cases h1 : c < 48
  · rw [if_pos h1, if_neg (by rw [isD_sp]; omega)]
  · rw [if_neg h1]
    by_cases h2 : 57 < c
    · rw [if_pos h2, if_neg (by rw [isD_sp]; omega)]
    · rw [if_neg h2, if_pos (by rw [isD_sp]; omega)]
theorem more27 {x c : Int} {σ : St} (hx : 0 ≤ x ∧ x < 282429536481) (hc : 97 ≤ c ∧ c ≤ 122) : m_X12_more x c σ = some (27 * x + (c - 96)) := by
  rw [m_X12_more, if_neg (by omega), wr_id' (x := c - 97) (by omega) (by omega), wr_id' (x := c - 97 + 1) (by omega) (by omega), wl_id (x := 27 * x) ⟨by omega, by omega⟩, wl_id ⟨by omega, by omega⟩]
  congr 1
  omega
theorem cutL_sp {b : Nat → Int} {n s : Nat} {σ : St} (h : MTx b n σ) (hsn : s ≤ n) : Hp (lp (fun a => m_X12_cut_L85 (s : Int) σ a.1 a.2) (0, 0)) (fun r => r.1 = ((en isL b n s - s : Nat) : Int) ∧ (en isL b n s - s ≤ 8 → r.2 = nB 27 (lst b s (en isL b n s - s)))) := by
  have n2 := h.1.2
  obtain ⟨⟨g1, g2⟩, g3, g4⟩ := en_sp (P := isL) (b := b) hsn
  refine Hp_up (fun j (z : Int × Int) => z.1 = (j : Int) ∧ (j ≤ 8 → z.2 = nB 27 (lst b s j))) 0 (en isL b n s - s) (by omega) (by omega) ⟨rfl, fun _ => rfl⟩ ?_ ?_
  · rintro j ⟨x, y⟩ - hj ⟨e1, e2⟩
    simp only at e1 e2
    subst e1
    have hlt : s + j < n := by omega
    have hL := g3 (s + j) (by omega) (by omega)
    have hb := isL_sp.mp hL
    have hix : wr ((s : Int) + (j : Int)) = ((s + j : Nat) : Int) := by rw [wr_id' (by omega) (by omega)]; omega
    simp only [m_X12_cut_L85]
    rw [hix, mAt h, if_pos hlt, bnd_s, mLet, bnd_s, if_pos hL, if_neg (by decide)]
    by_cases h8 : 8 ≤ j
    · rw [if_pos (by omega), nx1 (by omega), Hp_some, Lq_inl]
      exact ⟨rfl, fun q => absurd q (by omega)⟩
    · have hok : okL (lst b s j) := lst_ok _ (fun q k1 k2 => g3 q k1 (by omega))
      have hbd := nB27_bd _ hok
      rw [lst_len] at hbd
      have hsm := (bd_small ⟨j, by omega⟩).2
      simp only at hsm
      rw [if_neg (by omega), bnd_s, e2 (by omega), more27 ⟨by omega, by omega⟩ hb, bnd_s, nx1 (by omega), Hp_some, Lq_inl]
      exact ⟨rfl, fun _ => rfl⟩
  · rintro ⟨x, y⟩ ⟨e1, e2⟩
    simp only at e1 e2
    subst e1
    have hix : wr ((s : Int) + ((en isL b n s - s : Nat) : Int)) = ((en isL b n s : Nat) : Int) := by rw [wr_id' (by omega) (by omega)]; omega
    have hno : isL (if en isL b n s < n then b (en isL b n s) else 0) = false := by
      by_cases hlt : en isL b n s < n
      · rw [if_pos hlt]; exact g4 hlt
      · rw [if_neg hlt]; decide
    simp only [m_X12_cut_L85]
    rw [hix, mAt h, bnd_s, mLet, bnd_s, hno, if_pos (by decide), Hp_some, Lq_inr]
    exact ⟨rfl, e2⟩
theorem cutD_sp {b : Nat → Int} {n s : Nat} {σ : St} (h : MTx b n σ) (hsn : s ≤ n) : Hp (lp (fun a => m_X12_cut_L208 (s : Int) σ a.1 a.2) (0, 0)) (fun r => r.1 = ((en isD b n s - s : Nat) : Int) ∧ (en isD b n s - s ≤ 2 → r.2 = dgt b s (en isD b n s - s))) := by
  have n2 := h.1.2
  obtain ⟨⟨g1, g2⟩, g3, g4⟩ := en_sp (P := isD) (b := b) hsn
  refine Hp_up (fun j (z : Int × Int) => z.1 = (j : Int) ∧ (j ≤ 2 → z.2 = dgt b s j)) 0 (en isD b n s - s) (by omega) (by omega) ⟨rfl, fun _ => rfl⟩ ?_ ?_
  · rintro j ⟨x, y⟩ - hj ⟨e1, e2⟩
    simp only at e1 e2
    subst e1
    have hlt : s + j < n := by omega
    have hL := g3 (s + j) (by omega) (by omega)
    have hb := isD_sp.mp hL
    have hix : wr ((s : Int) + (j : Int)) = ((s + j : Nat) : Int) := by rw [wr_id' (by omega) (by omega)]; omega
    simp only [m_X12_cut_L208]
    rw [hix, mAt h, if_pos hlt, bnd_s, mDig, bnd_s, if_pos hL, if_neg (by decide)]
    by_cases h8 : 2 ≤ j
    · rw [if_pos (by omega), nx1 (by omega), Hp_some, Lq_inl]
      exact ⟨rfl, fun q => absurd q (by omega)⟩
    · obtain ⟨d1, d2, d3⟩ := dgt_bd (b := b) (s := s) j (fun q k1 k2 => g3 q k1 (by omega)) (by omega)
      rw [if_neg (by omega), bnd_s, e2 (by omega), vl, bnd_s, nx1 (by omega), Hp_some, Lq_inl]
      refine ⟨rfl, fun _ => ?_⟩
      show wr (wr (wr (10 * dgt b s j) + b (s + j)) - 48) = 10 * dgt b s j + (b (s + j) - 48)
      rw [wr_id' (x := 10 * dgt b s j) (by omega) (by omega), wr_id' (x := 10 * dgt b s j + b (s + j)) (by omega) (by omega), wr_id' (by omega) (by omega)]
      omega
  · rintro ⟨x, y⟩ ⟨e1, e2⟩
    simp only at e1 e2
    subst e1
    have hix : wr ((s : Int) + ((en isD b n s - s : Nat) : Int)) = ((en isD b n s : Nat) : Int) := by rw [wr_id' (by omega) (by omega)]; omega
    have hno : isD (if en isD b n s < n then b (en isD b n s) else 0) = false := by
      by_cases hlt : en isD b n s < n
      · rw [if_pos hlt]; exact g4 hlt
      · rw [if_neg hlt]; decide
    simp only [m_X12_cut_L208]
    rw [hix, mAt h, bnd_s, mDig, bnd_s, hno, if_pos (by decide), Hp_some, Lq_inr]
    exact ⟨rfl, e2⟩
theorem keys_sp {σ : St} (h : iKeys σ) (x : Int) : Hp (lp (fun a => m_X12_cut_L146 σ x a.1 a.2) (1, 0)) (fun y => y = kwN x 26) := by
  refine Hp_up (fun j (z : Int × Int) => z.2 = (j : Int) ∧ z.1 = kwN x j) 0 26 (by omega) (by omega) ⟨rfl, rfl⟩ ?_ ?_
  · rintro j ⟨y, z⟩ - hj ⟨e1, e2⟩
    simp only at e1 e2
    subst e1
    simp only [m_X12_cut_L146]
    rw [if_neg (by omega), rd_ok (by omega) (by omega), bnd_s, Int.toNat_natCast, h j hj, nx1 (by omega)]
    have e3 : kwN x (j + 1) = if KEYS.getD j 0 = x then 20 + (j : Int) else kwN x j := rfl
    by_cases hz : KEYS.getD j 0 = x
    · rw [if_pos (lc0.mpr hz), vl, bnd_s, Hp_some, Lq_inl, wr_id' (by omega) (by omega)]
      exact ⟨rfl, by rw [e3, if_pos hz]⟩
    · rw [if_neg (fun q => hz (lc0.mp q)), Hp_some, Lq_inl]
      exact ⟨rfl, by rw [e3, if_neg hz]; exact e2⟩
  · rintro ⟨y, z⟩ ⟨e1, e2⟩
    simp only at e1 e2
    subst e1
    simp only [m_X12_cut_L146]
    rw [if_pos (by omega), Hp_some, Lq_inr]
    exact e2
/-- the model's i-th token, which begins at s -/
def TkM (b : Nat → Int) (n s : Nat) (τ : St) (i : Nat) : Prop := τ 173 i = tkM b n s ∧ τ 174 i = (s : Int) ∧ (tkM b n s = 2 → τ 175 i = dgt b s (en isD b n s - s)) ∧ (tkM b n s = 1 → τ 176 i = nB 27 (lst b s (en isL b n s - s)))
theorem token_sp {σ : St} {i : Nat} {k p v x : Int} (h : σ 170 10 = (i : Int)) (hi : i < 503) : m_X12_token k p v x σ = some (up (up (up (up (up σ 173 i k) 174 i p) 175 i v) 176 i x) 170 10 ((i + 1 : Nat) : Int)) := by
  rw [m_X12_token, h, wt_ok (by omega) (by omega), bnd_s, Int.toNat_natCast, up_cell (by decide), h, wt_ok (by omega) (by omega), bnd_s, Int.toNat_natCast, up_cell (by decide), up_cell (by decide), h, wt_ok (by omega) (by omega), bnd_s, Int.toNat_natCast, up_cell (by decide), up_cell (by decide), up_cell (by decide), h, wt_ok (by omega) (by omega), bnd_s, Int.toNat_natCast, pt_s, bnd_s, up_cell (by decide), up_cell (by decide), up_cell (by decide), up_cell (by decide), h, nx1 (by omega)]
/-- where the cut stands: i tokens, position p -/
def CutI (b : Nat → Int) (n : Nat) (σ : St) (i p : Nat) (τ : St) : Prop := Wr ([(173, 176)], [(170, 10)]) σ τ ∧ τ 170 10 = (i : Int) ∧ i ≤ 501 ∧ p ≤ n ∧ en isB b n p = tkS b n i ∧ (∀ j, j < i → tkS b n j < n) ∧ ∀ j, j < i → TkM b n (tkS b n j) τ j
theorem cut_tok {b : Nat → Int} {n i s : Nat} {k v x : Int} {σ τ : St} (h : CutI b n σ i s τ) (hi : i ≤ 500) (hs : s = tkS b n i) (hk : k = tkM b n s) (hv : tkM b n s = 2 → v = dgt b s (en isD b n s - s)) (hx : tkM b n s = 1 → x = nB 27 (lst b s (en isL b n s - s))) :
    ∃ τ', m_X12_token k (s : Int) v x τ = some τ' ∧ Wr ([(173, 176)], [(170, 10)]) σ τ' ∧ τ' 170 10 = ((i + 1 : Nat) : Int) ∧ ∀ j, j < i + 1 → TkM b n (tkS b n j) τ' j := by
  obtain ⟨w1, w2, w3, w4, w5, w6, w7⟩ := h
  refine ⟨_, token_sp w2 (by omega), ?_, up_eq .., ?_⟩
  · exact Wr_up (Wr_up (Wr_up (Wr_up (Wr_up w1 rfl) rfl) rfl) rfl) rfl
  · intro j hj
    by_cases hji : j = i
    · subst hji
      rw [← hs]
      refine ⟨?_, ?_, fun q => ?_, fun q => ?_⟩
      · rw [up_cell (by decide), up_cell (by decide), up_cell (by decide), up_cell (by decide), up_eq]; exact hk
      · rw [up_cell (by decide), up_cell (by decide), up_cell (by decide), up_eq]
      · rw [up_cell (by decide), up_cell (by decide), up_eq]; exact hv q
      · rw [up_cell (by decide), up_eq]; exact hx q
    · obtain ⟨k1, k2, k3, k4⟩ := w7 j (by omega)
      refine ⟨?_, ?_, fun q => ?_, fun q => ?_⟩
      · rw [up_cell (by decide), up_slot hji, up_slot hji, up_slot hji, up_slot hji]; exact k1
      · rw [up_cell (by decide), up_slot hji, up_slot hji, up_slot hji, up_slot hji]; exact k2
      · rw [up_cell (by decide), up_slot hji, up_slot hji, up_slot hji, up_slot hji]; exact k3 q
      · rw [up_cell (by decide), up_slot hji, up_slot hji, up_slot hji, up_slot hji]; exact k4 q
theorem cut_nxt {b : Nat → Int} {n i : Nat} {σ τ τ' : St} (h : CutI b n σ i (tkS b n i) τ) (hi : i ≤ 500) (hlt : tkS b n i < n) (h1 : Wr ([(173, 176)], [(170, 10)]) σ τ') (h2 : τ' 170 10 = ((i + 1 : Nat) : Int)) (h3 : ∀ j, j < i + 1 → TkM b n (tkS b n j) τ' j) : CutI b n σ (i + 1) (tkE b n (tkS b n i)) τ' := by
  obtain ⟨w1, w2, w3, w4, w5, w6, w7⟩ := h
  refine ⟨h1, h2, by omega, (tkE_sp hlt).2, rfl, fun j hj => ?_, h3⟩
  by_cases hji : j = i
  · rw [hji]; exact hlt
  · exact w6 j (by omega)
theorem cut_sp {b : Nat → Int} {n : Nat} {σ : St} (h : MTx b n σ) : Hp (m_X12_cut σ) (fun τ => Wr ([(173, 176)], [(170, 10)]) σ τ ∧ ∀ i, i ≤ 500 → VT b n i → TkM b n (tkS b n i) τ i) := by
  have n2 := h.1.2
  rw [m_X12_cut, pt_s, bnd_s, Hp_bind]
  refine Hp_lp (fun m (z : Int × St) => ∃ i p : Nat, m + p = n ∧ z.1 = (p : Int) ∧ CutI b n σ i p z.2) (n := n) ⟨0, 0, rfl, rfl, Wr_up Wr_rf rfl, by simp only; rw [up_eq]; rfl, by omega, Nat.zero_le _, rfl, fun j hj => by omega, fun j hj => by omega⟩ (by omega) ?_
  rintro m ⟨x, τ⟩ ⟨i, p, hm, e1, hC⟩
  simp only at e1
  subst e1
  have hC' : CutI b n σ i p τ := hC
  obtain ⟨w1, w2, w3, w4, w5, w6, w7⟩ := hC
  simp only at w1 w2 w7
  have hT : MTx b n τ := MTx_cg h w1
  simp only [m_X12_cut_L7]
  rw [w2]
  by_cases hi : 500 < i
  · rw [if_pos (by omega), Hp_some, Lq_inr]
    simp only [Hp_some]
    exact ⟨w1, fun j hj _ => w7 j (by omega)⟩
  · rw [if_neg (by omega), mAt hT, bnd_s, hT.1.1]
    by_cases hp : p < n
    · rw [if_pos (by omega), if_pos hp]
      have hbp := h.2.2.1 p hp
      by_cases hB : isB (b p) = true
      · have hgo : Lq (fun bb : St ⊕ St => Hp (match bb with | .inl σ67 => some σ67 | .inr q => some q) (fun τ => Wr ([(173, 176)], [(170, 10)]) σ τ ∧ ∀ i, i ≤ 500 → VT b n i → TkM b n (tkS b n i) τ i)) (fun a' : Int × St => ∃ n', n' < m ∧ ∃ i p : Nat, n' + p = n ∧ a'.1 = (p : Int) ∧ CutI b n σ i p a'.2) (Sum.inl (wr ((p : Int) + 1), τ)) := by
          rw [Lq_inl]
          exact ⟨m - 1, by omega, i, p + 1, by omega, nx1 (by omega), w1, w2, w3, by omega, by rw [← w5, en_go hp hB], w6, w7⟩
        have h' := isB_sp.mp hB
        by_cases c1 : b p = 9
        · rw [if_pos c1, Hp_some]; exact hgo
        · rw [if_neg c1]
          by_cases c2 : b p = 10
          · rw [if_pos c2, Hp_some]; exact hgo
          · rw [if_neg c2]
            by_cases c3 : b p = 13
            · rw [if_pos c3, Hp_some]; exact hgo
            · rw [if_neg c3, if_pos (by omega), Hp_some]; exact hgo
      · have hBf : isB (b p) = false := by
          cases hc : isB (b p) with
          | true => exact absurd hc hB
          | false => rfl
        have h' := isB_no.mp hBf
        have hs : p = tkS b n i := by rw [← w5, en_no hp hBf]
        have hlt : tkS b n i < n := by rw [← hs]; exact hp
        have hfin : ∀ (e : Int) (τ' : St), e = (tkE b n p : Int) → Wr ([(173, 176)], [(170, 10)]) σ τ' → τ' 170 10 = ((i + 1 : Nat) : Int) → (∀ j, j < i + 1 → TkM b n (tkS b n j) τ' j) → Lq (fun bb : St ⊕ St => Hp (match bb with | .inl σ67 => some σ67 | .inr q => some q) (fun τ => Wr ([(173, 176)], [(170, 10)]) σ τ ∧ ∀ i, i ≤ 500 → VT b n i → TkM b n (tkS b n i) τ i)) (fun a' : Int × St => ∃ n', n' < m ∧ ∃ i p : Nat, n' + p = n ∧ a'.1 = (p : Int) ∧ CutI b n σ i p a'.2) (Sum.inl (e, τ')) := by
          intro e τ' he g1 g2 g3
          rw [Lq_inl]
          have ht := tkE_sp (b := b) hp
          refine ⟨n - tkE b n p, by omega, i + 1, tkE b n p, by omega, he, ?_⟩
          rw [hs]
          exact cut_nxt (by rw [← hs]; exact hC') (by omega) hlt g1 g2 g3
        rw [if_neg (by omega), if_neg (by omega), if_neg (by omega), if_neg (by omega), mLet, bnd_s]
        by_cases hL : isL (b p) = true
        · have hE : tkE b n p = en isL b n p := if_pos hL
          obtain ⟨⟨g1, g2⟩, -, -⟩ := en_sp (P := isL) (b := b) w4
          rw [if_pos hL, if_neg (by decide), Hp_bind]
          refine Hp_mono (cutL_sp hT w4) ?_
          rintro ⟨x1, x2⟩ ⟨y1, y2⟩
          simp only at y1 y2
          subst y1
          simp only
          have hend : ∀ k : Int, k = tkM b n p → Hp (m_X12_cut_J179 (p : Int) x2 τ ((en isL b n p - p : Nat) : Int) k) (Lq (fun bb : St ⊕ St => Hp (match bb with | .inl σ67 => some σ67 | .inr q => some q) (fun τ => Wr ([(173, 176)], [(170, 10)]) σ τ ∧ ∀ i, i ≤ 500 → VT b n i → TkM b n (tkS b n i) τ i)) (fun a' : Int × St => ∃ n', n' < m ∧ ∃ i p : Nat, n' + p = n ∧ a'.1 = (p : Int) ∧ CutI b n σ i p a'.2)) := by
            intro k hk
            obtain ⟨τ', o1, o2, o3, o4⟩ := cut_tok (k := k) (v := 0) (x := x2) hC' (by omega) hs hk (fun q => by
              exfalso
              unfold tkM at q
              rw [if_neg (by omega), if_pos hL] at q
              by_cases h8 : en isL b n p - p ≤ 8
              · rw [if_pos h8] at q
                by_cases h7 : en isL b n p - p ≤ 7
                · rw [if_pos h7] at q
                  rcases kwN_sp (nB 27 (lst b p (en isL b n p - p))) 26 with ⟨j, -, -, h3⟩ | ⟨-, h3⟩ <;> omega
                · rw [if_neg h7] at q; omega
              · rw [if_neg h8] at q; omega) (fun q => y2 (by
              unfold tkM at q
              rw [if_neg (by omega), if_pos hL] at q
              by_cases h8 : en isL b n p - p ≤ 8
              · exact h8
              · rw [if_neg h8] at q; omega))
            rw [m_X12_cut_J179, o1, bnd_s, vl, bnd_s, Hp_some]
            exact hfin _ _ (by rw [wr_id' (by omega) (by omega), hE]; omega) o2 o3 o4
          have hkM : tkM b n p = (if en isL b n p - p ≤ 8 then (if en isL b n p - p ≤ 7 then kwN (nB 27 (lst b p (en isL b n p - p))) 26 else 1) else 3) := by
            unfold tkM; rw [if_neg (by omega), if_pos hL]
          by_cases h8 : en isL b n p - p ≤ 8
          · rw [if_pos (by omega), m_X12_cut_J135]
            rw [if_pos h8] at hkM
            by_cases h7 : en isL b n p - p ≤ 7
            · rw [if_pos h7] at hkM
              rw [if_neg (by omega), Hp_bind, y2 h8]
              refine Hp_mono (keys_sp hT.2.2.2 _) ?_
              intro y hy
              rw [← y2 h8]
              exact hend y (by rw [hy, hkM])
            · rw [if_neg h7] at hkM
              rw [if_pos (by omega)]
              exact hend 1 hkM.symm
          · rw [if_neg (by omega), m_X12_cut_J135, if_pos (by omega)]
            rw [if_neg h8] at hkM
            exact hend 3 hkM.symm
        · rw [if_neg hL, if_pos rfl, mDig, bnd_s]
          by_cases hD : isD (b p) = true
          · have hE : tkE b n p = en isD b n p := by unfold tkE; rw [if_neg hL, if_pos hD]
            have hkM : tkM b n p = (if en isD b n p - p ≤ 2 then 2 else 3) := by
              unfold tkM; rw [if_neg (by omega), if_neg hL, if_pos hD]
            obtain ⟨⟨g1, g2⟩, -, -⟩ := en_sp (P := isD) (b := b) w4
            rw [if_pos hD, if_neg (by decide), Hp_bind]
            refine Hp_mono (cutD_sp hT w4) ?_
            rintro ⟨x1, x2⟩ ⟨y1, y2⟩
            simp only at y1 y2
            subst y1
            simp only
            have hend : ∀ k : Int, k = tkM b n p → Hp (m_X12_cut_J261 (p : Int) x2 τ ((en isD b n p - p : Nat) : Int) k) (Lq (fun bb : St ⊕ St => Hp (match bb with | .inl σ67 => some σ67 | .inr q => some q) (fun τ => Wr ([(173, 176)], [(170, 10)]) σ τ ∧ ∀ i, i ≤ 500 → VT b n i → TkM b n (tkS b n i) τ i)) (fun a' : Int × St => ∃ n', n' < m ∧ ∃ i p : Nat, n' + p = n ∧ a'.1 = (p : Int) ∧ CutI b n σ i p a'.2)) := by
              intro k hk
              obtain ⟨τ', o1, o2, o3, o4⟩ := cut_tok (k := k) (v := x2) (x := 0) hC' (by omega) hs hk (fun q => y2 (by
                rw [hkM] at q
                by_cases h8 : en isD b n p - p ≤ 2
                · exact h8
                · rw [if_neg h8] at q; omega)) (fun q => by
                exfalso
                rw [hkM] at q
                by_cases h8 : en isD b n p - p ≤ 2
                · rw [if_pos h8] at q; omega
                · rw [if_neg h8] at q; omega)
              rw [m_X12_cut_J261, o1, bnd_s, vl, bnd_s, Hp_some]
              exact hfin _ _ (by rw [wr_id' (by omega) (by omega), hE]; omega) o2 o3 o4
            by_cases h8 : en isD b n p - p ≤ 2
            · rw [if_pos (by omega)]
              exact hend 2 (by rw [hkM, if_pos h8])
            · rw [if_neg (by omega)]
              exact hend 3 (by rw [hkM, if_neg h8])
          · have hE : tkE b n p = p + 1 := by unfold tkE; rw [if_neg hL, if_neg hD]
            have hkM : tkM b n p = (if b p = 59 then 4 else 3) := by
              unfold tkM; rw [if_neg (by omega), if_neg hL, if_neg hD]
            rw [if_neg hD, if_pos rfl]
            have hend : ∀ k : Int, k = tkM b n p → Hp (m_X12_cut_J287 (p : Int) τ k) (Lq (fun bb : St ⊕ St => Hp (match bb with | .inl σ67 => some σ67 | .inr q => some q) (fun τ => Wr ([(173, 176)], [(170, 10)]) σ τ ∧ ∀ i, i ≤ 500 → VT b n i → TkM b n (tkS b n i) τ i)) (fun a' : Int × St => ∃ n', n' < m ∧ ∃ i p : Nat, n' + p = n ∧ a'.1 = (p : Int) ∧ CutI b n σ i p a'.2)) := by
              intro k hk
              obtain ⟨τ', o1, o2, o3, o4⟩ := cut_tok (k := k) (v := 0) (x := 0) hC' (by omega) hs hk (fun q => by
                exfalso
                rw [hkM] at q
                by_cases h8 : b p = 59
                · rw [if_pos h8] at q; omega
                · rw [if_neg h8] at q; omega) (fun q => by
                exfalso
                rw [hkM] at q
                by_cases h8 : b p = 59
                · rw [if_pos h8] at q; omega
                · rw [if_neg h8] at q; omega)
              rw [m_X12_cut_J287, o1, bnd_s, Hp_some]
              exact hfin _ _ (by rw [nx1 (by omega), hE]) o2 o3 o4
            by_cases h8 : b p = 59
            · rw [if_pos h8]
              exact hend 4 (by rw [hkM, if_pos h8])
            · rw [if_neg h8]
              exact hend 3 (by rw [hkM, if_neg h8])
    · have hpn : p = n := by omega
      subst hpn
      have hs : p = tkS b p i := by rw [← w5, en_ge (Nat.le_refl _)]
      have hkM : tkM b p p = 0 := by unfold tkM; rw [if_pos (Nat.le_refl _)]
      obtain ⟨τ', o1, o2, o3, o4⟩ := cut_tok (k := 0) (v := 0) (x := 0) hC' (by omega) hs hkM.symm (fun q => absurd (hkM.symm.trans q) (by decide)) (fun q => absurd (hkM.symm.trans q) (by decide))
      rw [if_neg (by omega), o1, bnd_s, Hp_some, Lq_inr]
      simp only [Hp_some]
      refine ⟨o2, fun j hj hv => o4 j ?_⟩
      by_cases hji : j ≤ i
      · omega
      · exfalso
        refine (hv i (by omega)).1 ?_
        unfold tkK
        rw [if_pos (by omega)]
