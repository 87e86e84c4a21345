theorem mi_X11_saw : MIV yX11_saw cX11_saw 2 (some .int) 11 1 := ⟨cd_X11_saw, im_X11_saw, se_X11_saw, ini_11, rfl, (Nat.le_of_ble_eq_true rfl), ⟨nh_11.1, nh_11.2, by decide +kernel⟩⟩
set_option maxRecDepth 100000 in
set_option maxHeartbeats 4000000 in
theorem lsaw_ret {w : Wd} {l : Launch} {a x : Int} {σ : St} (ia : InI a) (h1 : ¬ σ 129 0 = 0) (h2 : ¬ a < 0) (h3 : ¬ σ 129 6 ≤ a) (h4 : a < 768) (h5 : rd σ 141 768 a = some x) (sz : Nat) : Met l yL_saw wL_saw rm_L_saw (SwP w sz σ [rv w 0, iv a, rv w 234]) (CtQ w sz (some (iv 0)) True (up σ 234 0 x)) 1 64 (Aw w sz) := by
  refine va_MetW (cc := cL_saw) (maxL := 4) (ret := some .int) (hh := [(0, 9, 12, 13)]) pn_RL rfl ?_
  intro p e s m args below meth c s₁ B hml hv
  obtain ⟨rfl, hsz, hok, hP, hK, hD, hX, hF⟩ := hv
  subst hsz
  have htw := atoms_spec (ws := wL_saw) B.pre
  have hown : s.vm.findClass RL = some m.cls := findClass_of_methodNamed B.named
  have hts : ∀ t ∈ TB, t.before ([rv w 0, iv a, rv w 234] : List Value).toArray s = true := fun t ht => htw t (List.mem_cons_of_mem _ ht)
  have C : Cx w p s m ([rv w 0, iv a, rv w 234] : List Value).toArray c (Aw w s.heap.size) cL_saw RL 4 := ⟨B.exec, B.bytes, hml, hown, hts, hK, fun q h => h, hX⟩
  have key : G w p l e rm_L_saw s m ([rv w 0, iv a, rv w 234] : List Value).toArray below meth c (Aw w s.heap.size) 0 0 (MQ below (CtQ w s.heap.size (some (iv 0)) True (up σ 234 0 x)) ([rv w 0, iv a, rv w 234] : List Value).toArray s 1 64 (Aw w s.heap.size)) 4 0 [some (rv w 0), some (iv a), some (rv w 234), none] [] σ := by
    refine g_aload_n C dL_saw_0 rfl ?_
    refine g_iconst C dL_saw_1 ?_
    refine g_aload_n C dL_saw_2 rfl ?_
    refine g_iload_n C dL_saw_3 rfl ?_
    refine g_callV1 (As := [iv a]) (k0 := 0) (st := [iv 0, rv w 234]) C dL_saw_4 mi_X11_saw ml_L_7 (saw_ret ia h1 h2 h3 h4 h5) rfl rfl ⟨rfl, rfl⟩ ⟨Nat.le_of_ble_eq_true rfl, Nat.le_of_ble_eq_true rfl⟩ ⟨Nat.le_of_ble_eq_true rfl, Nat.le_of_ble_eq_true rfl⟩ rfl (Nat.le_of_ble_eq_true rfl) (fun ix => ?_)
    refine g_i2l C dL_saw_7 ix ?_
    refine g_last (n := 1) C dL_saw_8 rfl rfl (σ1 := up σ 234 0 x) rfl (by decide) (by unfold InI at ix; unfold InL; omega) ?_
    refine g_goto C dL_saw_9 (tgt := 15) rfl ?_
    refine g_iconst C dL_saw_15 ?_
    intro ho H locs ls hP hD hS hl
    refine W.widen (k := 1) (n := 64) (by decide) (by decide) ?_
    exact W.iret (v := 0) C.1 C.2.1 B.returns (fun t9 ht9 hW9 => ⟨⟨rfl, trivial, ho, by rw [ht9]; exact hP⟩, hS.F ht9⟩) hS.2.2 dL_saw_16 B.notSynchronized
  have hl := lv_entry ([rv w 0, iv a, rv w 234]) (n := 4) (Nat.le_of_ble_eq_true rfl)
  rw [lg_entry_eq]
  exact key hok s.heap [] _ hP (cw_D hD (fun k hk => Or.inl ⟨k, hk, rfl⟩)) va_S.rf (LR.of hl (fun i v h => by have := argL_in [rv w 0, iv a, rv w 234] 0 i v (argL_pad _ 1 _ _ h); rwa [Nat.zero_add] at this))
