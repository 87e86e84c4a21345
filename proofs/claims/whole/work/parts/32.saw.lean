/-! HushNet.saw where it answers (where it throws: still owed, with HushNetLaw.saw) -/
theorem dX11_saw_0 : decode cX11_saw 0 = .ok (.aload_n 0, 1) := by decide +kernel
theorem dX11_saw_1 : decode cX11_saw 1 = .ok (.getfield 63, 3) := by decide +kernel
theorem dX11_saw_4 : decode cX11_saw 4 = .ok (.getfield 198, 3) := by decide +kernel
theorem dX11_saw_7 : decode cX11_saw 7 = .ok (.ifCond .eq 30, 3) := by decide +kernel
theorem dX11_saw_10 : decode cX11_saw 10 = .ok (.iload_n 1, 1) := by decide +kernel
theorem dX11_saw_11 : decode cX11_saw 11 = .ok (.ifCond .lt 26, 3) := by decide +kernel
theorem dX11_saw_14 : decode cX11_saw 14 = .ok (.iload_n 1, 1) := by decide +kernel
theorem dX11_saw_15 : decode cX11_saw 15 = .ok (.aload_n 0, 1) := by decide +kernel
theorem dX11_saw_16 : decode cX11_saw 16 = .ok (.getfield 63, 3) := by decide +kernel
theorem dX11_saw_19 : decode cX11_saw 19 = .ok (.getfield 217, 3) := by decide +kernel
theorem dX11_saw_22 : decode cX11_saw 22 = .ok (.if_icmp .ge 15, 3) := by decide +kernel
theorem dX11_saw_25 : decode cX11_saw 25 = .ok (.iload_n 1, 1) := by decide +kernel
theorem dX11_saw_26 : decode cX11_saw 26 = .ok (.aload_n 0, 1) := by decide +kernel
theorem dX11_saw_27 : decode cX11_saw 27 = .ok (.getfield 63, 3) := by decide +kernel
theorem dX11_saw_30 : decode cX11_saw 30 = .ok (.getfield 220, 3) := by decide +kernel
theorem dX11_saw_33 : decode cX11_saw 33 = .ok (.arraylength, 1) := by decide +kernel
theorem dX11_saw_34 : decode cX11_saw 34 = .ok (.if_icmp .lt 11, 3) := by decide +kernel
theorem dX11_saw_37 : decode cX11_saw 37 = .ok (.new 223, 3) := by decide +kernel
theorem dX11_saw_40 : decode cX11_saw 40 = .ok (.dup, 1) := by decide +kernel
theorem dX11_saw_41 : decode cX11_saw 41 = .ok (.invokespecial 225, 3) := by decide +kernel
theorem dX11_saw_44 : decode cX11_saw 44 = .ok (.athrow, 1) := by decide +kernel
theorem dX11_saw_45 : decode cX11_saw 45 = .ok (.aload_n 0, 1) := by decide +kernel
theorem dX11_saw_46 : decode cX11_saw 46 = .ok (.getfield 63, 3) := by decide +kernel
theorem dX11_saw_49 : decode cX11_saw 49 = .ok (.getfield 220, 3) := by decide +kernel
theorem dX11_saw_52 : decode cX11_saw 52 = .ok (.iload_n 1, 1) := by decide +kernel
theorem dX11_saw_53 : decode cX11_saw 53 = .ok (.iaload, 1) := by decide +kernel
theorem dX11_saw_54 : decode cX11_saw 54 = .ok (.ireturn, 1) := by decide +kernel
theorem dL_saw_0 : decode cL_saw 0 = .ok (.aload_n 2, 1) := by decide +kernel
theorem dL_saw_1 : decode cL_saw 1 = .ok (.iconst 0, 1) := by decide +kernel
theorem dL_saw_2 : decode cL_saw 2 = .ok (.aload_n 0, 1) := by decide +kernel
theorem dL_saw_3 : decode cL_saw 3 = .ok (.iload_n 1, 1) := by decide +kernel
theorem dL_saw_4 : decode cL_saw 4 = .ok (.invokevirtual 7, 3) := by decide +kernel
theorem dL_saw_7 : decode cL_saw 7 = .ok (.i2l, 1) := by decide +kernel
theorem dL_saw_8 : decode cL_saw 8 = .ok (.lastore, 1) := by decide +kernel
theorem dL_saw_9 : decode cL_saw 9 = .ok (.goto 6, 3) := by decide +kernel
theorem dL_saw_12 : decode cL_saw 12 = .ok (.astore_n 3, 1) := by decide +kernel
theorem dL_saw_13 : decode cL_saw 13 = .ok (.iconst 1, 1) := by decide +kernel
theorem dL_saw_14 : decode cL_saw 14 = .ok (.ireturn, 1) := by decide +kernel
theorem dL_saw_15 : decode cL_saw 15 = .ok (.iconst 0, 1) := by decide +kernel
theorem dL_saw_16 : decode cL_saw 16 = .ok (.ireturn, 1) := by decide +kernel
abbrev rm_X11_saw : Room := { frames := 6, cells := 0, slots := 0, locals := 100 }
set_option maxRecDepth 100000 in
set_option maxHeartbeats 4000000 in
theorem saw_ret {w : Wd} {l : Launch} {a x : Int} {σ : St} (ia : InI a) (h1 : ¬ σ 129 0 = 0) (h2 : ¬ a < 0) (h3 : ¬ σ 129 6 ≤ a) (h4 : a < 768) (h5 : rd σ 141 768 a = some x) : Ct w l yX11_saw (Cond.code yX11_saw cX11_saw 2 (some .int) :: TB) rm_X11_saw [rv w 0, iv a] σ (some (iv x)) (InI x) σ := by
  refine Ct.of2 [some (rv w 0), some (iv a)] 0 rfl pn_RX11 (Nat.le_of_ble_eq_true rfl) ?_
  intro p e s m args below meth c C hr hlk
  refine g_aload_n C dX11_saw_0 rfl ?_
  refine g_getR (j := 7) C dX11_saw_1 rfl (Nat.le_of_ble_eq_true rfl) (Nat.le_of_ble_eq_true rfl) fl_11_63 rfl rfl (r := 129) rfl ?_
  refine g_getZ (j := 0) C dX11_saw_4 rfl (Nat.le_of_ble_eq_true rfl) (Nat.le_of_ble_eq_true rfl) fl_11_198 rfl rfl (fun i1 => ?_)
  refine g_if_eq C dX11_saw_7 (zI i1) rfl (tgt := 37) (fun c => absurd c h1) (fun _ => ?_)
  refine g_iload_n C dX11_saw_10 rfl ?_
  refine g_if_lt C dX11_saw_11 ia rfl (tgt := 37) (fun c => absurd c h2) (fun _ => ?_)
  refine g_iload_n C dX11_saw_14 rfl ?_
  refine g_aload_n C dX11_saw_15 rfl ?_
  refine g_getR (j := 7) C dX11_saw_16 rfl (Nat.le_of_ble_eq_true rfl) (Nat.le_of_ble_eq_true rfl) fl_11_63 rfl rfl (r := 129) rfl ?_
  refine g_getI (j := 6) C dX11_saw_19 rfl (Nat.le_of_ble_eq_true rfl) (Nat.le_of_ble_eq_true rfl) fl_11_217 rfl rfl (fun i2 => ?_)
  refine g_icmp_ge C dX11_saw_22 ia i2 rfl (tgt := 37) (fun c => absurd c h3) (fun _ => ?_)
  refine g_iload_n C dX11_saw_25 rfl ?_
  refine g_aload_n C dX11_saw_26 rfl ?_
  refine g_getR (j := 7) C dX11_saw_27 rfl (Nat.le_of_ble_eq_true rfl) (Nat.le_of_ble_eq_true rfl) fl_11_63 rfl rfl (r := 129) rfl ?_
  refine g_getR (j := 5) C dX11_saw_30 rfl (Nat.le_of_ble_eq_true rfl) (Nat.le_of_ble_eq_true rfl) fl_11_220 rfl rfl (r := 141) rfl ?_
  refine g_alen (t0 := 0) (n := 768) (ty := .int) C dX11_saw_33 (Nat.le_of_ble_eq_true rfl) rfl rfl (Or.inl ⟨rfl, rfl⟩) ?_
  refine g_icmp_lt C dX11_saw_34 ia (by decide) rfl (tgt := 45) (fun _ => ?_) (fun c => absurd h4 c)
  refine g_aload_n C dX11_saw_45 rfl ?_
  refine g_getR (j := 7) C dX11_saw_46 rfl (Nat.le_of_ble_eq_true rfl) (Nat.le_of_ble_eq_true rfl) fl_11_63 rfl rfl (r := 129) rfl ?_
  refine g_getR (j := 5) C dX11_saw_49 rfl (Nat.le_of_ble_eq_true rfl) (Nat.le_of_ble_eq_true rfl) fl_11_220 rfl rfl (r := 141) rfl ?_
  refine g_iload_n C dX11_saw_52 rfl ?_
  refine g_iald C dX11_saw_53 rfl rfl h5 ia (fun i3 => ?_)
  exact g_iretU C dX11_saw_54 hr hlk rfl i3
