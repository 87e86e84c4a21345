/-! HushNetLaw.saw: it catches what HushNet.saw throws -/
theorem pn_RL : plainName RL = true := by decide +kernel
abbrev rm_L_saw : Room := { frames := 7, cells := 1, slots := 64, locals := 121 }
abbrev wL_saw : List Cond := Cond.codeWith yL_saw cL_saw 4 (some .int) [(0, 9, 12, 13)] :: TB
theorem cl_L_13 : Cond.classLink RL 13 NSE ∈ TB := (tbc_5 236 rfl rfl)
theorem SwP_blind {w : Wd} {sz : Nat} {σ : St} {av : List Value} : FrameBlind (SwP w sz σ av) := fun a U g mk q => by
  obtain ⟨q0, q1, q2, qP, qK, qD, qX, qF⟩ := q
  refine ⟨q0, q1, q2, qP, va_K.moved (u := U) (U := U.calling g mk a) (Vm.Alike.refl U.vm) qK, qD, ⟨qX.1.moved (U := U.calling g mk a) (Vm.Alike.refl U.vm), vk_R.same (U := U.calling g mk a) rfl qX.2.1, qX.2.2.1.moved (U := U.calling g mk a) (Vm.Alike.refl U.vm), qX.2.2.2.1.moved (U := U.calling g mk a) (Vm.Alike.refl U.vm), va_Nw.same (u := U) (U := U.calling g mk a) rfl rfl qX.2.2.2.2⟩, fun t ht => va_Nw.same (u := U) (U := U.calling g mk a) (List.all_eq_true.mp prA_ot t ht) rfl (qF.1 t ht), qF.2.1.moved (U := U.calling g mk a) (Vm.Alike.refl U.vm), qF.2.2.moved (U := U.calling g mk a) (Vm.Alike.refl U.vm)⟩
set_option maxRecDepth 100000 in
set_option maxHeartbeats 4000000 in
theorem lsaw_throw {w : Wd} {l : Launch} {a : Int} {σ : St} (hst : l.stackTraces = false) (ia : InI a) (hth : σ 129 0 = 0 ∨ a < 0 ∨ σ 129 6 ≤ a ∨ ¬ a < 768) (sz : Nat) : Met l yL_saw wL_saw rm_L_saw (SwP w sz σ [rv w 0, iv a, rv w 234]) (CtQ w sz (some (iv 1)) True σ) 1 64 (Aw w sz) := by
  refine va_MetW (cc := cL_saw) (maxL := 4) (ret := some .int) (hh := [(0, 9, 12, 13)]) pn_RL rfl ?_
  intro p e s m args below meth c s₁ B hml hv
  obtain ⟨rfl, hsz, hok, hP, hK, hD, hX, hF⟩ := hv
  subst hsz
  have htw := atoms_spec (ws := wL_saw) B.pre
  have hown : s.vm.findClass RL = some m.cls := findClass_of_methodNamed B.named
  have htab := vx_table (x := yL_saw) B (htw _ List.mem_cons_self)
  have hts : ∀ t ∈ TB, t.before ([rv w 0, iv a, rv w 234] : List Value).toArray s = true := fun t ht => htw t (List.mem_cons_of_mem _ ht)
  have C : Cx w p s m ([rv w 0, iv a, rv w 234] : List Value).toArray c (Aw w s.heap.size) cL_saw RL 4 := ⟨B.exec, B.bytes, hml, hown, hts, hK, fun q h => h, hX⟩
  have key : G w p l e rm_L_saw s m ([rv w 0, iv a, rv w 234] : List Value).toArray below meth c (Aw w s.heap.size) 0 0 (MQ below (CtQ w s.heap.size (some (iv 1)) True σ) ([rv w 0, iv a, rv w 234] : List Value).toArray s 1 64 (Aw w s.heap.size)) 4 0 [some (rv w 0), some (iv a), some (rv w 234), none] [] σ := by
    refine g_aload_n C dL_saw_0 rfl ?_
    refine g_iconst C dL_saw_1 ?_
    refine g_aload_n C dL_saw_2 rfl ?_
    refine g_iload_n C dL_saw_3 rfl ?_
    intro ho H locs ls hP hD hS hl
    have g0 := cw_get (w := w) (σ := σ) (k := 0) (by decide)
    rw [entO (ci := 11) rfl (by decide)] at g0
    have hr := vx_runV (p := p) (l := l) (e := e) (R := rm_L_saw) (below := below) (meth := meth) (H := H) (locs := locs) (cells := 0) (slots := 0) (As := [iv a]) (rest := [iv 0, rv w 234]) (n := 1) (own := RL) (C := RX11) (Ts := TB) (b := w.2.1 + 0) (g := F0 m 4 ls [iv a, rv w 0, iv 0, rv w 234]) ⟨C.1, C.2.1, C.2.2.1, C.2.2.2.1, hts⟩ (saw_throw hst ia hth H.size) ⟨callB_of (Ts := TB) 1 hts (goodTB cd_X11_saw) rfl rfl rfl (hts _ ini_11) (hts _ ml_L_7) ⟨nh_11.1, nh_11.2, by decide +kernel⟩ ⟨Nat.le_of_ble_eq_true rfl, Nat.le_of_ble_eq_true rfl⟩, hts _ im_X11_saw, hts _ se_X11_saw⟩ ⟨SwP_blind, va_recv hK hP (clOK 11 (by decide)).1 g0, fun U hU hW => ⟨rfl, by rw [hU], ho, by rw [hU]; exact hP, va_K.moved hW.alike hK, cw_D hD (fun _ _ => trivial), by rw [hU]; exact hX.step hS (Aw_le C hS) hW, by rw [hU]; exact hF.step hS (Aw_le C hS) hW⟩⟩ rfl rfl hl.1 rfl (lv_room (Nat.le_of_ble_eq_true rfl)) dL_saw_4 ⟨Nat.le_of_ble_eq_true rfl, Nat.le_of_ble_eq_true rfl⟩
    intro T hT X
    rcases hr T hT X with ⟨v, st₀, t, T', L9, h0, X', hL, e1, e2, hQ, st⟩ | ⟨q, st₀, t, T', L9, E, ce, h0, X', hL, e1, e2, hXC, hce, hcv, hcl, st⟩
    · exact hQ.elim
    · obtain ⟨hE, hP1, hz, hk⟩ := hXC
      subst hE
      rw [h0] at hz hk
      have hAA := Aw_le C hS
      have kc := vx_catch (p := p) (l := l) (e := e) (R := rm_L_saw) (below := below) (meth := meth) (H := T'.heap) (locs := locs ++ L9) (cells := 0 + 1) (slots := 0 + 6) (Q := MQ below (CtQ w s.heap.size (some (iv 1)) True σ) ([rv w 0, iv a, rv w 234] : List Value).toArray s 1 64 (Aw w s.heap.size)) (args := ([rv w 0, iv a, rv w 234] : List Value).toArray) (pc := 4) (ls := ls) (rest := [iv 0, rv w 234]) (own := RL) (name := NSE) (E := NSE) (ce := ce) (q := q) hown [] { startPc := 0, endPc := 9, handlerPc := 12, catchType := 13 } [] (by rw [htab]; rfl) (fun z hz => by cases hz) (by decide) (by decide) (hts _ cl_L_13) (va_Nw.use rfl (hF.1 (.castable NSE NSE) (by decide +kernel))) (by rw [e1]; exact hce) hcv hcl (by
        refine lv_astore_n C.1 C.2.1 dL_saw_12 rfl hl.has (by decide) rfl (fun ls9 h9 => ?_)
        refine lv_iconst (v := 1) C.1 C.2.1 dL_saw_13 rfl ?_
        refine W.widen (k := 1) (n := 64) (by decide) (by decide) ?_
        exact W.iret (v := 1) C.1 C.2.1 B.returns (fun t9 ht9 hW9 => ⟨⟨rfl, trivial, ho, by rw [ht9, e1]; exact hP1⟩, by rw [ht9, e1]; exact Nat.le_trans hS.1 hz, fun q9 h1 h2 => by rw [ht9, e1, hk q9 (Nat.lt_of_lt_of_le h1 hS.1) (fun z => h2 (hAA q9 z))]; exact hS.2.1 q9 h1 h2⟩) (fun z hz => (List.mem_append.mp hz).elim (fun h => hS.2.2 z h) (fun h => hAA _ (hL z h))) dL_saw_14 B.notSynchronized)
      obtain ⟨t2, a1, b1⟩ := kc T' rfl X'
      exact ⟨t2, st.trans a1, b1⟩
  have hl := lv_entry ([rv w 0, iv a, rv w 234]) (n := 4) (Nat.le_of_ble_eq_true rfl)
  rw [lg_entry_eq]
  exact key hok s.heap [] _ hP (cw_D hD (fun k hk => Or.inl ⟨k, hk, rfl⟩)) va_S.rf (LR.of hl (fun i v h => by have := argL_in [rv w 0, iv a, rv w 234] 0 i v (argL_pad _ 1 _ _ h); rwa [Nat.zero_add] at this))
