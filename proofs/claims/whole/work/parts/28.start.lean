/-! THE START: from the law's entry to the head of its loop -/
theorem tlc_1 {w : Cond} (i : Nat) (h : tables_1_1[i]? = some w) : w ∈ lw_tbl := List.mem_append_right _ (show w ∈ tables_1 from (List.mem_append_left _ (List.mem_of_getElem? h)))
theorem tlc_2 {w : Cond} (i : Nat) (h : tables_1_2[i]? = some w) : w ∈ lw_tbl := List.mem_append_right _ (show w ∈ tables_1 from (List.mem_append_right _ (List.mem_append_left _ (List.mem_of_getElem? h))))
theorem tlc_3 {w : Cond} (i : Nat) (h : tables_1_3[i]? = some w) : w ∈ lw_tbl := List.mem_append_right _ (show w ∈ tables_1 from (List.mem_append_right _ (List.mem_append_right _ (List.mem_append_left _ (List.mem_of_getElem? h)))))
theorem tlc_4 {w : Cond} (i : Nat) (h : tables_1_4[i]? = some w) : w ∈ lw_tbl := List.mem_append_right _ (show w ∈ tables_1 from (List.mem_append_right _ (List.mem_append_right _ (List.mem_append_right _ (List.mem_append_left _ (List.mem_of_getElem? h))))))
theorem tlc_5 {w : Cond} (i : Nat) (h : tables_1_5[i]? = some w) : w ∈ lw_tbl := List.mem_append_right _ (show w ∈ tables_1 from (List.mem_append_right _ (List.mem_append_right _ (List.mem_append_right _ (List.mem_append_right _ (List.mem_append_left _ (List.mem_of_getElem? h)))))))
theorem tlc_6 {w : Cond} (i : Nat) (h : tables_1_6[i]? = some w) : w ∈ lw_tbl := List.mem_append_right _ (show w ∈ tables_1 from (List.mem_append_right _ (List.mem_append_right _ (List.mem_append_right _ (List.mem_append_right _ (List.mem_append_right _ (List.mem_append_left _ (List.mem_of_getElem? h))))))))
theorem tlc_7 {w : Cond} (i : Nat) (h : tables_1_7[i]? = some w) : w ∈ lw_tbl := List.mem_append_right _ (show w ∈ tables_1 from (List.mem_append_right _ (List.mem_append_right _ (List.mem_append_right _ (List.mem_append_right _ (List.mem_append_right _ (List.mem_append_right _ (List.mem_append_left _ (List.mem_of_getElem? h)))))))))
theorem tlc_8 {w : Cond} (i : Nat) (h : tables_1_8[i]? = some w) : w ∈ lw_tbl := List.mem_append_right _ (show w ∈ tables_1 from (List.mem_append_right _ (List.mem_append_right _ (List.mem_append_right _ (List.mem_append_right _ (List.mem_append_right _ (List.mem_append_right _ (List.mem_append_right _ (List.mem_append_left _ (List.mem_of_getElem? h))))))))))
theorem tlc_9 {w : Cond} (i : Nat) (h : tables_1_9[i]? = some w) : w ∈ lw_tbl := List.mem_append_right _ (show w ∈ tables_1 from (List.mem_append_right _ (List.mem_append_right _ (List.mem_append_right _ (List.mem_append_right _ (List.mem_append_right _ (List.mem_append_right _ (List.mem_append_right _ (List.mem_append_right _ (List.mem_of_getElem? h))))))))))
theorem arrC {args : Array Value} {s : State} {ty : FieldType} (h : (Cond.arrayClass ty).before args s = true) : ∃ cA : ClassId, ArrOfT s cA ty ∧ s.vm.findClass ("[" ++ ty.toString) = some cA := by
  obtain ⟨c, k, comp, h1, h2, h3⟩ := Cond.arrayClass_spec h
  exact ⟨c, fun n z => ⟨fun q hq => (by cases hq), k, h2, comp, h3⟩, h1⟩
theorem arrO {args : Array Value} {s : State} {n : String} (h : (Cond.arrayOver (.object n)).before args s = true) : ∃ cA : ClassId, ArrOfT s cA (.object n) ∧ va_RA s cA (.object n) := by
  obtain ⟨comp, c, k, h1, h2, h3, h4, h5⟩ := Cond.arrayOver_spec h
  exact ⟨c, fun N z => ⟨(fun k h => by cases h), k, h3, comp, h4⟩, k, comp, h3, h4, h1, h5⟩
theorem arrOA {args : Array Value} {s : State} {ty : FieldType} (h : (Cond.arrayOver (.array ty)).before args s = true) : ∃ cA : ClassId, ArrOfT s cA (.array ty) ∧ s.vm.findClass ("[" ++ (FieldType.array ty).toString) = some cA := by
  unfold Cond.before Cond.holds at h
  simp only [Cond.value] at h
  cases hf : s.vm.findClass (FieldType.array ty).toString with
  | none => rw [hf] at h; simp at h
  | some comp =>
    rw [hf, Option.bind_some] at h
    generalize (s.vm.classes.findIdx? _) = o at h
    cases o with
    | none => simp at h
    | some c =>
      rw [Option.bind_some] at h
      cases hk : s.vm.classes[c]? with
      | none => rw [hk] at h; simp at h
      | some k =>
        rw [hk, Option.map_some] at h
        cases hkind : k.kind with
        | array comp2 ty9 =>
          rw [hkind] at h
          simp at h
          obtain ⟨h1, h2⟩ := h
          subst h1
          exact ⟨c, fun N z => ⟨(fun k h => by cases h), k, hk, comp2, hkind⟩, h2⟩
        | _ => rw [hkind] at h; simp at h
theorem rfp_full {k j : Nat} (hk : k < NC) (h : isRf k j = true) : rfp 241 k j = some (rf k j) := by
  have h1 := qa_ok hk h
  have h2 : qa k j < RO.length := (List.getElem?_eq_some_iff.mp h1).1
  unfold rfp
  rw [if_pos (show qa k j < 241 from h2)]
theorem P_full {w : Wd} {H : Heap} (hP : va_P w.1 vwCl (cwP w 235 241 146) H) : va_P w.1 vwCl (cw w (SG 146)) H := by
  intro k q hq
  obtain ⟨hk, rfl⟩ := cw_of hq
  have h0 := hP k _ (cwP_get hk)
  by_cases h24 : tg k = 24
  · rw [ep24 h24] at h0
    rw [ent24 h24]
    have h1 : H[w.2.1 + k]? = some (vp_cell (w.2.2 4) (ln k, .inr (.inr (.inr (.inr (rarr w 241 k)))))) := h0
    show H[w.2.1 + k]? = some (vp_cell (w.2.2 4) (ln k, .inr (.inr (.inr (.inr (fun j => some (w.2.1 + rf k j)))))))
    rw [h1, vp_cell_q, vp_cell_q]
    congr 1
    refine arrV_ext (fun j hj => ?_)
    unfold rarr
    rw [if_pos hj, rfp_full hk (isRf_a (Or.inl h24) hj)]
    rfl
  · by_cases h25 : tg k = 25
    · rw [ep25 h25] at h0
      rw [ent25 h25]
      have h1 : H[w.2.1 + k]? = some (vp_cell (w.2.2 5) (ln k, .inr (.inr (.inr (.inr (rarr w 241 k)))))) := h0
      show H[w.2.1 + k]? = some (vp_cell (w.2.2 5) (ln k, .inr (.inr (.inr (.inr (fun j => some (w.2.1 + rf k j)))))))
      rw [h1, vp_cell_q, vp_cell_q]
      congr 1
      refine arrV_ext (fun j hj => ?_)
      unfold rarr
      rw [if_pos hj, rfp_full hk (isRf_a (Or.inr h25) hj)]
      rfl
    · by_cases hc : tg k < 13
      · rw [epO rfl hc] at h0
        rw [entO rfl hc]
        have e : (List.range (ln k)).map (fval w (SG 146) k (tg k)) = (List.range (ln k)).map (fvalP w 241 146 k (tg k)) := by
          apply List.map_congr_left
          intro j hj
          have h4 : kof (fty (tg k) j) = 4 → rfp 241 k j = some (rf k j) := fun q => rfp_full hk (isRf_f rfl hc (List.mem_range.mp hj) q)
          unfold fval fvalP
          generalize kof (fty (tg k) j) = n at h4 ⊢
          match n, h4 with
          | 0, _ => rfl
          | 1, _ => rfl
          | 2, _ => rfl
          | 3, _ => rfl
          | 4, h4 => rw [h4 rfl]; rfl
          | n + 5, _ => rfl
        rw [e]
        exact h0
      · have ht : tg k = 20 ∨ tg k = 21 ∨ tg k = 22 ∨ tg k = 23 := by
          have := tagsOK k hk
          omega
        rcases ht with q | q | q | q
        · rw [ep20 q] at h0; rw [ent20 q]; exact h0
        · rw [ep21 q] at h0; rw [ent21 q]; exact h0
        · rw [ep22 q] at h0; rw [ent22 q]; exact h0
        · rw [ep23 q] at h0; rw [ent23 q]; exact h0
theorem gp_g {w : Wd} {p : Program} {l : Launch} {e : Env} {R : Room} {s : State} {m : MethodId} {args : Array Value} {below : List Frame} {meth : Method} {c : Code} {A : Nat → Prop} {cells slots : Nat} {Q : State → Prop} {nL pc : Nat} {L : List (Option Value)} {st : List Value} (hA : ∀ q, w.2.1 ≤ q → A q) (k : G w p l e R s m args below meth c A cells slots Q nL pc L st (SG 146)) : GP w p l e R s m args below meth c A Q nL cells slots 235 241 146 pc L st := fun _ H locs ls hP _ hS hl => k (okSG 146) H locs ls (P_full hP) (cw_D (cwP_D (w := w) (n := 235) (t := 241) (m := 146) (A := A) hA |> fun _ => ⟨fun i j p q hi hj hpq => by obtain ⟨i1, rfl⟩ := cw_of hi; obtain ⟨j1, rfl⟩ := cw_of hj; have : w.2.1 + i = w.2.1 + j := hpq; omega, fun k q hk => by obtain ⟨k1, rfl⟩ := cw_of hk; exact hA _ (Nat.le_add_right _ _)⟩ : va_D A (cw w (SG 146))) (fun k _ => hA _ (Nat.le_add_right _ _))) hS hl
theorem insOK : ∀ ci, ci < 13 → Cond.instantiable (RXf ci) (NXf ci) ∈ TB
  | 0, _ => ins_0
  | 1, _ => ins_1
  | 2, _ => ins_2
  | 3, _ => ins_3
  | 4, _ => ins_4
  | 5, _ => ins_5
  | 6, _ => ins_6
  | 7, _ => ins_7
  | 8, _ => ins_8
  | 9, _ => ins_9
  | 10, _ => ins_10
  | 11, _ => ins_11
  | 12, _ => ins_12
  | n + 13, h => absurd h (by omega)
def tS : Term := Term.string RX9 68
def tV : Term := Term.field tS "java/lang/String" "value" "[B"
theorem sx_el : ∀ j : Nat, j < 127 → Cond.eq (.elem tV (.int (Int32.ofNat j))) (.int (WB.getD j 0)) ∈ flatC (Cond.and given_1 narrow_1) := by decide +kernel
theorem mkSX {s : State} {b : Nat} (hgv : (Cond.and given_1 narrow_1).before #[Value.ref b] s = true) (htl : ∀ t ∈ lw_tbl, t.before #[Value.ref b] s = true) : ∃ a1 a2 : Nat, ∀ w : Wd, w.2.2 100 = a1 → w.2.2 101 = a2 → SX w (fun q => s.heap.size ≤ q) s s.heap := by
  have hs := flat_of_before _ hgv
  have hA : ∀ a : Nat, a < s.heap.size → ¬ (fun q : Nat => s.heap.size ≤ q) a := fun a h q => Nat.not_le.mpr h q
  obtain ⟨adK, adV, hS, hev⟩ := vk_Sof (s := s) (args := #[Value.ref b]) (N := 1) (tm := fun _ => tS) (len := [127]) (byt := [WB]) (A := fun q => s.heap.size ≤ q) (fun i hi => by rw [show i = 0 by omega]; decide) (fun i hi => hs _ (by decide +kernel)) (fun i hi => hs _ (by decide +kernel)) (fun i hi => hs _ (by decide +kernel)) (fun i hi => by rw [show i = 0 by omega]; exact hs _ (by decide +kernel)) (fun i hi j hj => by rw [show i = 0 by omega] at hj ⊢; exact hs _ (sx_el j hj)) (fun i j hi hj h => absurd (show i = j by omega) h) hA
  refine ⟨adK 0, adV 0, fun w h1 h2 => ⟨?_, ?_, ?_, ?_, ?_⟩⟩
  · rw [h1, h2]
    refine ⟨fun i hi => ?_, fun i j hi hj _ => by omega⟩
    rw [show i = 0 by omega]
    exact hS.1 0 (by omega)
  · rw [h1]
    exact vk_R.of (htl _ (tlc_3 94 rfl)) (hev 0 (by omega))
  · exact va_Zof (htl _ (tlc_3 104 rfl)) (htl _ (tlc_1 14 rfl)) (va_eqt (hs _ (by decide +kernel))) hA
  · exact va_Zqof (htl _ (tlc_3 120 rfl)) (htl _ (tlc_1 16 rfl)) (hs _ (by decide +kernel)) hA
  · exact va_Nw.of rfl (htl _ (tlc_5 129 rfl))
theorem mkNX {s : State} {b : Nat} (htl : ∀ t ∈ lw_tbl, t.before #[Value.ref b] s = true) : NX s := ⟨va_Nw.of rfl (htl _ (tlc_1 67 rfl)), va_Nw.of rfl (htl _ (tlc_1 101 rfl)), va_Nw.of rfl (htl _ (tlc_1 144 rfl)), va_Nw.of rfl (htl _ (tlc_1 187 rfl)), va_Nw.of rfl (htl _ (tlc_1 193 rfl)), va_Nw.of rfl (htl _ (tlc_2 91 rfl)), va_AO.of (htl _ (tlc_1 185 rfl)), htl _ (tlc_1 39 rfl)⟩
theorem cl_L_8 : Cond.classLink RL 8 (RXf 11) ∈ TB := (tbc_1 24 rfl rfl)
theorem cl_L_16 : Cond.classLink RL 16 (RXf 12) ∈ TB := (tbc_6 66 rfl rfl)
set_option maxRecDepth 100000 in
set_option maxHeartbeats 4000000 in
/-- THE LAW, from its entry: open in Inv (the mathematics) and in saw's own call -/
theorem whole_open {p : Program} {e : Env} {s : State} {m : MethodId} {below : List Frame} {meth : Method} {c : Code} (l : Launch) {b L : Nat} {xs : Nat → Int32} (hL : L ≤ 3584) (C0 : lw_At p s m meth c b L xs) {Inv : St → Prop} (hPS : PStep Inv) (hI0 : Inv (SG 146)) (hSaw : ∀ w : Wd, SawRule w l) : W p l e room_1 s m #[Value.ref b] below meth c s.heap [] 0 0 (lw_Z below #[Value.ref b] s) (entryFrame m ([Value.ref b] : List Value).toArray 7) := by
  obtain ⟨hx, hb, hr, hml, hown, htl, hX, hbl, hlocks, hgv⟩ := id C0
  have hts : ∀ t ∈ TB, t.before #[Value.ref b] s = true := fun t ht => htl t (List.mem_filter.mp ht).1
  have hKn : ∀ ci, ∃ q : ClassId × (Nat → Nat), ci < 13 → u_Kn s (RXf ci) (TXf ci) (NXf ci) q.1 q.2 := by
    intro ci
    by_cases h : ci < 13
    · obtain ⟨cC, iS, hK⟩ := u_known (ws := TB) hts (clOK ci h).2.1 (hts _ (insOK ci h))
      exact ⟨(cC, iS), fun _ => hK⟩
    · exact ⟨(0, fun _ => 0), fun q => absurd q h⟩
  obtain ⟨ad, had⟩ := Classical.axiomOfChoice hKn
  obtain ⟨y0, t0, u0⟩ := arrC (ty := .int) (hts _ ac_int)
  obtain ⟨y1, t1, u1⟩ := arrC (ty := .byte) (hts _ ac_byte)
  obtain ⟨y2, t2, u2⟩ := arrC (ty := .boolean) (hts _ ac_boolean)
  obtain ⟨y3, t3, u3⟩ := arrC (ty := .long) (hts _ ac_long)
  obtain ⟨y4, t4, u4⟩ := arrO (n := "HushNet$Agent") (htl _ (tlc_1 185 rfl))
  obtain ⟨y5, t5, u5⟩ := arrOA (ty := .int) (htl _ (tlc_1 39 rfl))
  obtain ⟨a1, a2, hSX⟩ := mkSX hgv htl
  obtain ⟨w, hw1, hw2, hw3⟩ : ∃ w : Wd, w.1 = (fun k => (ad k).1, fun k => (ad k).2) ∧ w.2.1 = s.heap.size ∧ (w.2.2 0 = y0 ∧ w.2.2 1 = y1 ∧ w.2.2 2 = y2 ∧ w.2.2 3 = y3 ∧ w.2.2 4 = y4 ∧ w.2.2 5 = y5 ∧ w.2.2 100 = a1 ∧ w.2.2 101 = a2) := ⟨((fun k => (ad k).1, fun k => (ad k).2), s.heap.size, fun k => if k = 0 then y0 else if k = 1 then y1 else if k = 2 then y2 else if k = 3 then y3 else if k = 4 then y4 else if k = 5 then y5 else if k = 100 then a1 else a2), rfl, rfl, ⟨rfl, rfl, rfl, rfl, rfl, rfl, rfl, rfl⟩⟩
  obtain ⟨v0, v1, v2, v3, v4, v5, v6, v7⟩ := hw3
  have hK : va_K w.1 vwCl (tys w) s := by
    refine ⟨fun ci q hq => ?_, fun k q hq => ?_⟩
    · have hci : ci < 13 := (List.getElem?_eq_some_iff.mp hq).1
      have := (clOK ci hci).1
      rw [hq] at this
      cases Option.some.inj this
      rw [hw1]
      exact had ci hci
    · have hk6 : k < 6 := (List.getElem?_eq_some_iff.mp hq).1
      match k, hk6 with
      | 0, _ => cases Option.some.inj hq; rw [v0]; exact ⟨t0, u0⟩
      | 1, _ => cases Option.some.inj hq; rw [v1]; exact ⟨t1, u1⟩
      | 2, _ => cases Option.some.inj hq; rw [v2]; exact ⟨t2, u2⟩
      | 3, _ => cases Option.some.inj hq; rw [v3]; exact ⟨t3, u3⟩
      | 4, _ => cases Option.some.inj hq; rw [v4]; exact ⟨t4, u4⟩
      | 5, _ => cases Option.some.inj hq; rw [v5]; exact ⟨t5, u5⟩
  have hNX := mkNX htl
  have CP : CxP w p s m #[Value.ref b] c (fun q => s.heap.size ≤ q) code RL 7 := ⟨hx, hb, hml, hown, hts, hK, fun q h => by rw [hw2] at h; exact h, hNX⟩
  have CG : Cx w p s m #[Value.ref b] c (fun q => s.heap.size ≤ q) code RL 7 := ⟨hx, hb, hml, hown, hts, hK, fun q h => by
    rcases h with ⟨k, -, rfl⟩ | h
    · show s.heap.size ≤ w.2.1 + k
      rw [hw2]; exact Nat.le_add_right _ _
    · exact h, hSX w v6 v7⟩
  have key : GP w p l e room_1 s m #[Value.ref b] below meth c (fun q => s.heap.size ≤ q) (lw_Z2 below s) 7 0 0 0 0 0 0 [some (.ref b), none, none, none, none, none, none] [] := by
    refine h_new (ci := 11) (n1 := 1) (c1 := 1) (s1 := 11) CP dL_law_0 rfl (Nat.le_of_ble_eq_true rfl) cl_L_8 ins_11 ini_11 (by decide +kernel) ⟨Nat.le_of_ble_eq_true rfl, Nat.le_of_ble_eq_true rfl⟩ rfl rfl rfl ?_
    refine h_dup CP dL_law_3 rfl ?_
    refine h_callI (n := 0) (As := []) (c1 := 170) (s1 := 16252) CP dL_law_4 cd_X11_init im_X11_init ini_11 ⟨nh_11.1, nh_11.2, by decide +kernel⟩ rfl ml_L_15 ci_X11_init_0 rfl ⟨rfl, rfl⟩ ⟨Nat.le_of_ble_eq_true rfl, Nat.le_of_ble_eq_true rfl⟩ ⟨Nat.le_of_ble_eq_true rfl, Nat.le_of_ble_eq_true rfl⟩ rfl (Nat.le_of_ble_eq_true rfl) rfl rfl ?_
    refine h_astore_n (L1 := [some (.ref b), some (rv w 0), none, none, none, none, none]) CP dL_law_7 rfl (Nat.le_of_ble_eq_true rfl) rfl ?_
    refine h_new (ci := 12) (n1 := 171) (c1 := 171) (s1 := 16341) CP dL_law_8 rfl (Nat.le_of_ble_eq_true rfl) cl_L_16 ins_12 ini_12 (by decide +kernel) ⟨Nat.le_of_ble_eq_true rfl, Nat.le_of_ble_eq_true rfl⟩ rfl rfl rfl ?_
    refine h_dup CP dL_law_11 rfl ?_
    refine h_callI (n := 0) (As := []) (c1 := 234) (s1 := 54421) CP dL_law_12 cd_X12_init im_X12_init ini_12 ⟨nh_12.1, nh_12.2, by decide +kernel⟩ rfl ml_L_18 ci_X12_init_170 rfl ⟨rfl, rfl⟩ ⟨Nat.le_of_ble_eq_true rfl, Nat.le_of_ble_eq_true rfl⟩ ⟨Nat.le_of_ble_eq_true rfl, Nat.le_of_ble_eq_true rfl⟩ rfl (Nat.le_of_ble_eq_true rfl) rfl rfl ?_
    refine h_astore_n (L1 := [some (.ref b), some (rv w 0), some (rv w 170), none, none, none, none]) CP dL_law_15 rfl (Nat.le_of_ble_eq_true rfl) rfl ?_
    refine h_iconst CP dL_law_16 ?_
    refine h_newa23 (N := 1) (n1 := 235) (c1 := 235) (s1 := 54422) CP dL_law_17 rfl rfl rfl (by decide) ac_long (Nat.le_of_ble_eq_true rfl) ⟨Nat.le_of_ble_eq_true rfl, Nat.le_of_ble_eq_true rfl⟩ rfl rfl rfl ?_
    refine h_astore_n (L1 := [some (.ref b), some (rv w 0), some (rv w 170), some (rv w 234), none, none, none]) CP dL_law_19 rfl (Nat.le_of_ble_eq_true rfl) rfl ?_
    refine h_iconst CP dL_law_20 ?_
    refine h_istore (L1 := [some (.ref b), some (rv w 0), some (rv w 170), some (rv w 234), some (iv 0), none, none]) CP dL_law_21 rfl (Nat.le_of_ble_eq_true rfl) rfl ?_
    refine gp_g CP.2.2.2.2.2.2.1 ?_
    exact law_loop hPS (hSaw w) htl hgv CG hX hbl hL hr hlocks 514 0 0 (SG 146) (by decide) (by decide) (by decide) hI0
  have hl := lv_entry ([Value.ref b]) (n := 7) (Nat.le_of_ble_eq_true rfl)
  rw [lg_entry_eq]
  exact key (fun k _ j => rfl) s.heap [] _ (fun k q hq => by have := (List.getElem?_eq_some_iff.mp hq).1; simp [cwP] at this) (by rw [hw2]; rfl) va_S.rf (LR.of hl (fun i v h => by have := argL_in [Value.ref b] 0 i v (argL_pad _ 6 _ _ h); rwa [Nat.zero_add] at this))
