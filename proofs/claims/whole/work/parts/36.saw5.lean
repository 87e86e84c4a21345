/-! the rule of HushNetLaw.saw's call -/
theorem mkXF {s : State} {b : Nat} (hgv : (Cond.and given_1 narrow_1).before #[Value.ref b] s = true) (htl : ∀ t ∈ lw_tbl, t.before #[Value.ref b] s = true) : XF (fun q => s.heap.size ≤ q) s s.heap := by
  have hs := flat_of_before _ hgv
  have hA : ∀ a : Nat, a < s.heap.size → ¬ (fun q : Nat => s.heap.size ≤ q) a := fun a h q => Nat.not_le.mpr h q
  refine ⟨fun t ht => va_Nw.of (List.all_eq_true.mp prA_ot t ht) (htl t (prA_in t ht)), ?_, ?_⟩
  · exact vx_Zqof (htl _ (by decide +kernel)) (htl _ (by decide +kernel)) (hs _ (by decide +kernel)) hA
  · exact vx_Zqof (htl _ (by decide +kernel)) (htl _ (by decide +kernel)) (hs _ (by decide +kernel)) hA
theorem st_L_saw : Cond.static yL_saw ∈ TB := by decide +kernel
theorem ml_L_117 : Cond.methodLink RL 117 yL_saw ∈ TB := by decide +kernel
theorem ini_L : Cond.initialized RL ∈ TB := by decide +kernel
theorem cwt_L_saw : Cond.codeWith yL_saw cL_saw 4 (some .int) [(0, 9, 12, 13)] ∈ TB := by decide +kernel
theorem good_saw : GoodIn TB (va_wsS RL 117 yL_saw wL_saw) := by
  intro u hu
  have hm : u ∈ TB := by
    unfold va_wsS wL_saw at hu
    simp only [List.cons_append, List.nil_append, List.mem_cons] at hu
    rcases hu with q | q | q | q | q
    · rw [q]; exact ml_L_117
    · rw [q]; exact st_L_saw
    · rw [q]; exact ini_L
    · rw [q]; exact cwt_L_saw
    · exact q
  exact ⟨hm, good_of_word (List.mem_filter.mp hm).2⟩
theorem saw_met {w : Wd} {l : Launch} {a r : Int} {σ σ' : St} (hst : l.stackTraces = false) (ia : InI a) (hm : m_L_saw a σ = some (r, σ')) (sz : Nat) : Met l yL_saw wL_saw rm_L_saw (SwP w sz σ [rv w 0, iv a, rv w 234]) (CtQ w sz (some (iv r)) True σ') 1 64 (Aw w sz) := by
  unfold m_L_saw at hm
  by_cases h1 : σ 129 0 = 0
  · rw [if_pos h1] at hm; cases hm; exact lsaw_throw hst ia (Or.inl h1) sz
  rw [if_neg h1] at hm
  by_cases h2 : a < 0
  · rw [if_pos h2] at hm; cases hm; exact lsaw_throw hst ia (Or.inr (Or.inl h2)) sz
  rw [if_neg h2] at hm
  by_cases h3 : σ 129 6 ≤ a
  · rw [if_pos h3] at hm; cases hm; exact lsaw_throw hst ia (Or.inr (Or.inr (Or.inl h3))) sz
  rw [if_neg h3] at hm
  by_cases h4 : 768 ≤ a
  · rw [if_pos h4] at hm; cases hm; exact lsaw_throw hst ia (Or.inr (Or.inr (Or.inr (by omega)))) sz
  rw [if_neg h4] at hm
  cases h5 : rd σ 141 768 a with
  | none => rw [h5] at hm; cases hm
  | some x => rw [h5] at hm; cases hm; exact lsaw_ret ia h1 h2 h3 (by omega) h5 sz
set_option maxRecDepth 100000 in
set_option maxHeartbeats 4000000 in
theorem saw_rule {w : Wd} {l : Launch} (hst : l.stackTraces = false) (p : Program) (e : Env) (s : State) (m : MethodId) (b : Nat) (below : List Frame) (meth : Method) (c : Code) (cells slots : Nat) (L : List (Option Value)) (st : List Value) (σ σ' : St) (a r : Int) (C : Cx w p s m #[Value.ref b] c (fun q => s.heap.size ≤ q) code RL 7) (htl : ∀ t ∈ lw_tbl, t.before #[Value.ref b] s = true) (hgv : (Jvm.Cond.and given_1 narrow_1).before #[Value.ref b] s = true) (hlk : meth.locks = false) (ia : InI a) (hm : m_L_saw a σ = some (r, σ')) (hcs : cells + 1 ≤ 601024 ∧ slots + 64 ≤ 7293034) (hcat : (st.map fun v => v.category).sum ≤ 8) (k : GL w p l e s m b below meth c (cells + 1) (slots + 64) 990 L (iv r :: st) σ') : GL w p l e s m b below meth c cells slots 987 L (rv w 234 :: iv a :: rv w 0 :: st) σ := by
  have hXF := mkXF hgv htl
  intro ho H locs ls hP hD hS hl T hT X
  have hr := vx_runSW (p := p) (l := l) (e := e) (R := room_1) (below := below) (meth := meth) (H := H) (locs := locs) (cells := cells) (slots := slots) (As := [rv w 0, iv a, rv w 234]) (rest := st) (n := 3) (own := RL) (Ts := TB) (g := F0 m 987 ls (rv w 234 :: iv a :: rv w 0 :: st)) ⟨C.1, C.2.1, C.2.2.1, C.2.2.2.1, C.2.2.2.2.1⟩ (saw_met hst ia hm H.size) (vx_cwSW (Ts := TB) 3 C.2.2.2.2.1 good_saw rfl rfl rfl ⟨by decide, by decide, by decide +kernel⟩ ⟨Nat.le_of_ble_eq_true rfl, Nat.le_of_ble_eq_true rfl⟩) ⟨SwP_blind, fun U hU hW => ⟨rfl, by rw [hU], ho, by rw [hU]; exact hP, va_K.moved hW.alike C.2.2.2.2.2.1, cw_D hD (fun _ _ => trivial), by rw [hU]; exact C.2.2.2.2.2.2.2.step hS (Aw_le C hS) hW, by rw [hU]; exact hXF.step hS (Aw_le C hS) hW⟩⟩ rfl rfl hl.1 rfl (lv_room hcat) dL_law_987 hcs
  have hA := Aw_le C hS
  obtain ⟨v, st₀, t, T', Lc, h0, X', hL, e1, e2, ⟨⟨hv, hRP, hok, hP1⟩, hz, hk⟩, stp⟩ := hr T hT X
  cases hv
  rw [h0] at hz hk
  have hP2 : va_P w.1 vwCl (cw w σ') T'.heap := by rw [e1]; exact hP1
  have hS2 : va_S (fun q => s.heap.size ≤ q) s.heap T'.heap (locs ++ Lc) := ⟨Nat.le_trans hS.1 (by rw [e1]; exact hz), fun q h1 h2 => by rw [e1, hk q (Nat.lt_of_lt_of_le h1 hS.1) (fun z => h2 (hA q z))]; exact hS.2.1 q h1 h2, fun q hq => by
      rcases List.mem_append.mp hq with h | h
      · exact hS.2.2 q h
      · exact hA _ (hL q h)⟩
  obtain ⟨t2, a1, b1⟩ := k hok T'.heap (locs ++ Lc) ls hP2 (cw_D hD (fun k9 h9 => by have := hD.2 k9 _ (cw_get h9); exact this)) hS2 hl T' rfl X'
  exact ⟨t2, stp t2 a1, b1⟩
theorem saw_all {l : Launch} (hst : l.stackTraces = false) (w : Wd) : SawRule w l := saw_rule hst
theorem no_traces {l : Launch} (hflags : l.flags = flags0) : l.stackTraces = false := by unfold Launch.stackTraces; rw [hflags]; decide +kernel
/-- the law from its entry, open in Inv alone (the mathematics) -/
theorem whole_math {p : Program} {e : Env} {s : State} {m : MethodId} {below : List Frame} {meth : Method} {c : Code} (l : Launch) (hflags : l.flags = flags0) {b L : Nat} {xs : Nat → Int32} (hL : L ≤ 3584) (C0 : lw_At p s m meth c b L xs) {Inv : St → Prop} (hPS : PStep Inv) (hI0 : Inv (SG 146)) : W p l e room_1 s m #[Value.ref b] below meth c s.heap [] 0 0 (lw_Z below #[Value.ref b] s) (entryFrame m ([Value.ref b] : List Value).toArray 7) := whole_open l hL C0 hPS hI0 (saw_all (no_traces hflags))
