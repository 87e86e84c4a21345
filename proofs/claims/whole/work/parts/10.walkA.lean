theorem dX3_clear_0 : decode cX3_clear 0 = .ok (.aload_n 0, 1) := by decide +kernel
theorem dX3_clear_1 : decode cX3_clear 1 = .ok (.iconst 0, 1) := by decide +kernel
theorem dX3_clear_2 : decode cX3_clear 2 = .ok (.putfield 18, 3) := by decide +kernel
theorem dX3_clear_5 : decode cX3_clear 5 = .ok (.return_, 1) := by decide +kernel
abbrev rm_X3_clear : Room := { frames := 0, cells := 0, slots := 0, locals := 0 }
set_option maxRecDepth 100000 in
set_option maxHeartbeats 4000000 in
theorem ct_X3_clear {w : Wd} {l : Launch} {k0 : Nat} {σ : St} {σ' : St} (t0 : tg k0 = 3) (h : m_X3_clear k0 σ = some σ') : Ct w l yX3_clear (Cond.code yX3_clear cX3_clear 1 none :: TB) rm_X3_clear [rv w k0] σ none True σ' := by
  refine Ct.of2 [some (rv w k0)] 0 rfl pn_RX3 (Nat.le_of_ble_eq_true rfl) ?_
  intro p e s m args below meth c C hr hlk
  unfold m_X3_clear at h
  refine g_aload_n C dX3_clear_0 rfl ?_
  refine g_iconst C dX3_clear_1 ?_
  obtain ⟨σ1, qσ1, h⟩ := bnd h
  refine g_putI (j := 2) C dX3_clear_2 t0 (Nat.le_of_ble_eq_true rfl) (Nat.le_of_ble_eq_true rfl) fl_3_18 rfl rfl rfl rfl qσ1 (by decide) ?_
  exact g_vretP C dX3_clear_5 hr hlk h
theorem dJ6_bitCount_0f7a4_0 : decode cJ6_bitCount_0f7a4 0 = .ok (.iload_n 0, 1) := by decide +kernel
theorem dJ6_bitCount_0f7a4_1 : decode cJ6_bitCount_0f7a4 1 = .ok (.iload_n 0, 1) := by decide +kernel
theorem dJ6_bitCount_0f7a4_2 : decode cJ6_bitCount_0f7a4 2 = .ok (.iconst 1, 1) := by decide +kernel
theorem dJ6_bitCount_0f7a4_3 : decode cJ6_bitCount_0f7a4 3 = .ok (.iushr, 1) := by decide +kernel
theorem dJ6_bitCount_0f7a4_4 : decode cJ6_bitCount_0f7a4 4 = .ok (.ldc_w 265, 3) := by decide +kernel
theorem dJ6_bitCount_0f7a4_7 : decode cJ6_bitCount_0f7a4 7 = .ok (.iand, 1) := by decide +kernel
theorem dJ6_bitCount_0f7a4_8 : decode cJ6_bitCount_0f7a4 8 = .ok (.isub, 1) := by decide +kernel
theorem dJ6_bitCount_0f7a4_9 : decode cJ6_bitCount_0f7a4 9 = .ok (.istore_n 0, 1) := by decide +kernel
theorem dJ6_bitCount_0f7a4_10 : decode cJ6_bitCount_0f7a4 10 = .ok (.iload_n 0, 1) := by decide +kernel
theorem dJ6_bitCount_0f7a4_11 : decode cJ6_bitCount_0f7a4 11 = .ok (.ldc_w 266, 3) := by decide +kernel
theorem dJ6_bitCount_0f7a4_14 : decode cJ6_bitCount_0f7a4 14 = .ok (.iand, 1) := by decide +kernel
theorem dJ6_bitCount_0f7a4_15 : decode cJ6_bitCount_0f7a4 15 = .ok (.iload_n 0, 1) := by decide +kernel
theorem dJ6_bitCount_0f7a4_16 : decode cJ6_bitCount_0f7a4 16 = .ok (.iconst 2, 1) := by decide +kernel
theorem dJ6_bitCount_0f7a4_17 : decode cJ6_bitCount_0f7a4 17 = .ok (.iushr, 1) := by decide +kernel
theorem dJ6_bitCount_0f7a4_18 : decode cJ6_bitCount_0f7a4 18 = .ok (.ldc_w 266, 3) := by decide +kernel
theorem dJ6_bitCount_0f7a4_21 : decode cJ6_bitCount_0f7a4 21 = .ok (.iand, 1) := by decide +kernel
theorem dJ6_bitCount_0f7a4_22 : decode cJ6_bitCount_0f7a4 22 = .ok (.iadd, 1) := by decide +kernel
theorem dJ6_bitCount_0f7a4_23 : decode cJ6_bitCount_0f7a4 23 = .ok (.istore_n 0, 1) := by decide +kernel
theorem dJ6_bitCount_0f7a4_24 : decode cJ6_bitCount_0f7a4 24 = .ok (.iload_n 0, 1) := by decide +kernel
theorem dJ6_bitCount_0f7a4_25 : decode cJ6_bitCount_0f7a4 25 = .ok (.iload_n 0, 1) := by decide +kernel
theorem dJ6_bitCount_0f7a4_26 : decode cJ6_bitCount_0f7a4 26 = .ok (.iconst 4, 1) := by decide +kernel
theorem dJ6_bitCount_0f7a4_27 : decode cJ6_bitCount_0f7a4 27 = .ok (.iushr, 1) := by decide +kernel
theorem dJ6_bitCount_0f7a4_28 : decode cJ6_bitCount_0f7a4 28 = .ok (.iadd, 1) := by decide +kernel
theorem dJ6_bitCount_0f7a4_29 : decode cJ6_bitCount_0f7a4 29 = .ok (.ldc_w 267, 3) := by decide +kernel
theorem dJ6_bitCount_0f7a4_32 : decode cJ6_bitCount_0f7a4 32 = .ok (.iand, 1) := by decide +kernel
theorem dJ6_bitCount_0f7a4_33 : decode cJ6_bitCount_0f7a4 33 = .ok (.istore_n 0, 1) := by decide +kernel
theorem dJ6_bitCount_0f7a4_34 : decode cJ6_bitCount_0f7a4 34 = .ok (.iload_n 0, 1) := by decide +kernel
theorem dJ6_bitCount_0f7a4_35 : decode cJ6_bitCount_0f7a4 35 = .ok (.iload_n 0, 1) := by decide +kernel
theorem dJ6_bitCount_0f7a4_36 : decode cJ6_bitCount_0f7a4 36 = .ok (.bipush 8, 2) := by decide +kernel
theorem dJ6_bitCount_0f7a4_38 : decode cJ6_bitCount_0f7a4 38 = .ok (.iushr, 1) := by decide +kernel
theorem dJ6_bitCount_0f7a4_39 : decode cJ6_bitCount_0f7a4 39 = .ok (.iadd, 1) := by decide +kernel
theorem dJ6_bitCount_0f7a4_40 : decode cJ6_bitCount_0f7a4 40 = .ok (.istore_n 0, 1) := by decide +kernel
theorem dJ6_bitCount_0f7a4_41 : decode cJ6_bitCount_0f7a4 41 = .ok (.iload_n 0, 1) := by decide +kernel
theorem dJ6_bitCount_0f7a4_42 : decode cJ6_bitCount_0f7a4 42 = .ok (.iload_n 0, 1) := by decide +kernel
theorem dJ6_bitCount_0f7a4_43 : decode cJ6_bitCount_0f7a4 43 = .ok (.bipush 16, 2) := by decide +kernel
theorem dJ6_bitCount_0f7a4_45 : decode cJ6_bitCount_0f7a4 45 = .ok (.iushr, 1) := by decide +kernel
theorem dJ6_bitCount_0f7a4_46 : decode cJ6_bitCount_0f7a4 46 = .ok (.iadd, 1) := by decide +kernel
theorem dJ6_bitCount_0f7a4_47 : decode cJ6_bitCount_0f7a4 47 = .ok (.istore_n 0, 1) := by decide +kernel
theorem dJ6_bitCount_0f7a4_48 : decode cJ6_bitCount_0f7a4 48 = .ok (.iload_n 0, 1) := by decide +kernel
theorem dJ6_bitCount_0f7a4_49 : decode cJ6_bitCount_0f7a4 49 = .ok (.bipush 63, 2) := by decide +kernel
theorem dJ6_bitCount_0f7a4_51 : decode cJ6_bitCount_0f7a4 51 = .ok (.iand, 1) := by decide +kernel
theorem dJ6_bitCount_0f7a4_52 : decode cJ6_bitCount_0f7a4 52 = .ok (.ireturn, 1) := by decide +kernel
abbrev rm_J6_bitCount_0f7a4 : Room := { frames := 0, cells := 0, slots := 0, locals := 0 }
set_option maxRecDepth 100000 in
set_option maxHeartbeats 4000000 in
theorem ct_J6_bitCount_0f7a4 {w : Wd} {l : Launch} {a1 : Int} {σ : St} {y : Int} (ia1 : InI a1) (h : m_J6_bitCount_0f7a4 a1 σ = some y) : Ct w l yJ6_bitCount_0f7a4 (Cond.code yJ6_bitCount_0f7a4 cJ6_bitCount_0f7a4 1 (some .int) :: TB) rm_J6_bitCount_0f7a4 [iv a1] σ (some (iv y)) (InI y) σ := by
  refine Ct.of2 [some (iv a1)] 0 rfl pn_RJ6 (Nat.le_of_ble_eq_true rfl) ?_
  intro p e s m args below meth c C hr hlk
  unfold m_J6_bitCount_0f7a4 at h
  refine g_iload_n C dJ6_bitCount_0f7a4_0 rfl ?_
  refine g_iload_n C dJ6_bitCount_0f7a4_1 rfl ?_
  refine g_iconst C dJ6_bitCount_0f7a4_2 ?_
  refine g_iushr C dJ6_bitCount_0f7a4_3 ?_
  refine g_ldcw (n := 1431655765) C dJ6_bitCount_0f7a4_4 rfl kl_J6_265 ?_
  refine g_iand C dJ6_bitCount_0f7a4_7 ?_
  refine g_isub C dJ6_bitCount_0f7a4_8 ?_
  obtain ⟨x1, qx1, h⟩ := bnd h
  have qx1 := Option.some.inj qx1
  have ix1 : InI x1 := by rw [← qx1]; exact (iwr _)
  refine g_E qx1 ?_
  refine g_istore_n (L1 := [some (iv x1)]) C dJ6_bitCount_0f7a4_9 rfl (Nat.le_of_ble_eq_true rfl) rfl ?_
  refine g_iload_n C dJ6_bitCount_0f7a4_10 rfl ?_
  refine g_ldcw (n := 858993459) C dJ6_bitCount_0f7a4_11 rfl kl_J6_266 ?_
  refine g_iand C dJ6_bitCount_0f7a4_14 ?_
  refine g_iload_n C dJ6_bitCount_0f7a4_15 rfl ?_
  refine g_iconst C dJ6_bitCount_0f7a4_16 ?_
  refine g_iushr C dJ6_bitCount_0f7a4_17 ?_
  refine g_ldcw (n := 858993459) C dJ6_bitCount_0f7a4_18 rfl kl_J6_266 ?_
  refine g_iand C dJ6_bitCount_0f7a4_21 ?_
  refine g_iadd C dJ6_bitCount_0f7a4_22 ?_
  obtain ⟨x2, qx2, h⟩ := bnd h
  have qx2 := Option.some.inj qx2
  have ix2 : InI x2 := by rw [← qx2]; exact (iwr _)
  refine g_E qx2 ?_
  refine g_istore_n (L1 := [some (iv x2)]) C dJ6_bitCount_0f7a4_23 rfl (Nat.le_of_ble_eq_true rfl) rfl ?_
  refine g_iload_n C dJ6_bitCount_0f7a4_24 rfl ?_
  refine g_iload_n C dJ6_bitCount_0f7a4_25 rfl ?_
  refine g_iconst C dJ6_bitCount_0f7a4_26 ?_
  refine g_iushr C dJ6_bitCount_0f7a4_27 ?_
  refine g_iadd C dJ6_bitCount_0f7a4_28 ?_
  refine g_ldcw (n := 252645135) C dJ6_bitCount_0f7a4_29 rfl kl_J6_267 ?_
  refine g_iand C dJ6_bitCount_0f7a4_32 ?_
  obtain ⟨x3, qx3, h⟩ := bnd h
  have qx3 := Option.some.inj qx3
  have ix3 : InI x3 := by rw [← qx3]; exact (iand _ _)
  refine g_E qx3 ?_
  refine g_istore_n (L1 := [some (iv x3)]) C dJ6_bitCount_0f7a4_33 rfl (Nat.le_of_ble_eq_true rfl) rfl ?_
  refine g_iload_n C dJ6_bitCount_0f7a4_34 rfl ?_
  refine g_iload_n C dJ6_bitCount_0f7a4_35 rfl ?_
  refine g_bipush C dJ6_bitCount_0f7a4_36 rfl ?_
  refine g_iushr C dJ6_bitCount_0f7a4_38 ?_
  refine g_iadd C dJ6_bitCount_0f7a4_39 ?_
  obtain ⟨x4, qx4, h⟩ := bnd h
  have qx4 := Option.some.inj qx4
  have ix4 : InI x4 := by rw [← qx4]; exact (iwr _)
  refine g_E qx4 ?_
  refine g_istore_n (L1 := [some (iv x4)]) C dJ6_bitCount_0f7a4_40 rfl (Nat.le_of_ble_eq_true rfl) rfl ?_
  refine g_iload_n C dJ6_bitCount_0f7a4_41 rfl ?_
  refine g_iload_n C dJ6_bitCount_0f7a4_42 rfl ?_
  refine g_bipush C dJ6_bitCount_0f7a4_43 rfl ?_
  refine g_iushr C dJ6_bitCount_0f7a4_45 ?_
  refine g_iadd C dJ6_bitCount_0f7a4_46 ?_
  obtain ⟨x5, qx5, h⟩ := bnd h
  have qx5 := Option.some.inj qx5
  have ix5 : InI x5 := by rw [← qx5]; exact (iwr _)
  refine g_E qx5 ?_
  refine g_istore_n (L1 := [some (iv x5)]) C dJ6_bitCount_0f7a4_47 rfl (Nat.le_of_ble_eq_true rfl) rfl ?_
  refine g_iload_n C dJ6_bitCount_0f7a4_48 rfl ?_
  refine g_bipush C dJ6_bitCount_0f7a4_49 rfl ?_
  refine g_iand C dJ6_bitCount_0f7a4_51 ?_
  exact g_iretU C dJ6_bitCount_0f7a4_52 hr hlk h (iand _ _)
theorem dX3_isEmpty_0 : decode cX3_isEmpty 0 = .ok (.aload_n 0, 1) := by decide +kernel
theorem dX3_isEmpty_1 : decode cX3_isEmpty 1 = .ok (.getfield 18, 3) := by decide +kernel
theorem dX3_isEmpty_4 : decode cX3_isEmpty 4 = .ok (.ifCond .gt 7, 3) := by decide +kernel
theorem dX3_isEmpty_7 : decode cX3_isEmpty 7 = .ok (.iconst 1, 1) := by decide +kernel
theorem dX3_isEmpty_8 : decode cX3_isEmpty 8 = .ok (.goto 4, 3) := by decide +kernel
theorem dX3_isEmpty_11 : decode cX3_isEmpty 11 = .ok (.iconst 0, 1) := by decide +kernel
theorem dX3_isEmpty_12 : decode cX3_isEmpty 12 = .ok (.ireturn, 1) := by decide +kernel
abbrev rm_X3_isEmpty : Room := { frames := 0, cells := 0, slots := 0, locals := 0 }
set_option maxRecDepth 100000 in
set_option maxHeartbeats 4000000 in
theorem ct_X3_isEmpty {w : Wd} {l : Launch} {k0 : Nat} {σ : St} {y : Int} (t0 : tg k0 = 3) (h : m_X3_isEmpty k0 σ = some y) : Ct w l yX3_isEmpty (Cond.code yX3_isEmpty cX3_isEmpty 1 (some .boolean) :: TB) rm_X3_isEmpty [rv w k0] σ (some (iv y)) (InZ y) σ := by
  refine Ct.of2 [some (rv w k0)] 0 rfl pn_RX3 (Nat.le_of_ble_eq_true rfl) ?_
  intro p e s m args below meth c C hr hlk
  unfold m_X3_isEmpty at h
  refine g_aload_n C dX3_isEmpty_0 rfl ?_
  refine g_getI (j := 2) C dX3_isEmpty_1 t0 (Nat.le_of_ble_eq_true rfl) (Nat.le_of_ble_eq_true rfl) fl_3_18 rfl rfl (fun i1 => ?_)
  refine g_if_gt C dX3_isEmpty_4 i1 rfl (tgt := 11) (fun c2 => ?_) (fun c2 => ?_)
  · have h := ifT c2 h
    refine g_iconst C dX3_isEmpty_11 ?_
    exact g_zretU C dX3_isEmpty_12 hr hlk h (Or.inl rfl)
  · have h := ifF c2 h
    refine g_iconst C dX3_isEmpty_7 ?_
    refine g_goto C dX3_isEmpty_8 rfl (tgt := 12) ?_
    exact g_zretU C dX3_isEmpty_12 hr hlk h (Or.inr rfl)
theorem dX3_push_0 : decode cX3_push 0 = .ok (.aload_n 0, 1) := by decide +kernel
theorem dX3_push_1 : decode cX3_push 1 = .ok (.getfield 18, 3) := by decide +kernel
theorem dX3_push_4 : decode cX3_push 4 = .ok (.ifCond .lt 42, 3) := by decide +kernel
theorem dX3_push_7 : decode cX3_push 7 = .ok (.aload_n 0, 1) := by decide +kernel
theorem dX3_push_8 : decode cX3_push 8 = .ok (.getfield 18, 3) := by decide +kernel
theorem dX3_push_11 : decode cX3_push 11 = .ok (.bipush 64, 2) := by decide +kernel
theorem dX3_push_13 : decode cX3_push 13 = .ok (.if_icmp .ge 33, 3) := by decide +kernel
theorem dX3_push_16 : decode cX3_push 16 = .ok (.aload_n 0, 1) := by decide +kernel
theorem dX3_push_17 : decode cX3_push 17 = .ok (.getfield 11, 3) := by decide +kernel
theorem dX3_push_20 : decode cX3_push 20 = .ok (.aload_n 0, 1) := by decide +kernel
theorem dX3_push_21 : decode cX3_push 21 = .ok (.getfield 18, 3) := by decide +kernel
theorem dX3_push_24 : decode cX3_push 24 = .ok (.iload_n 1, 1) := by decide +kernel
theorem dX3_push_25 : decode cX3_push 25 = .ok (.iastore, 1) := by decide +kernel
theorem dX3_push_26 : decode cX3_push 26 = .ok (.aload_n 0, 1) := by decide +kernel
theorem dX3_push_27 : decode cX3_push 27 = .ok (.getfield 15, 3) := by decide +kernel
theorem dX3_push_30 : decode cX3_push 30 = .ok (.aload_n 0, 1) := by decide +kernel
theorem dX3_push_31 : decode cX3_push 31 = .ok (.getfield 18, 3) := by decide +kernel
theorem dX3_push_34 : decode cX3_push 34 = .ok (.iload_n 2, 1) := by decide +kernel
theorem dX3_push_35 : decode cX3_push 35 = .ok (.iastore, 1) := by decide +kernel
theorem dX3_push_36 : decode cX3_push 36 = .ok (.aload_n 0, 1) := by decide +kernel
theorem dX3_push_37 : decode cX3_push 37 = .ok (.dup, 1) := by decide +kernel
theorem dX3_push_38 : decode cX3_push 38 = .ok (.getfield 18, 3) := by decide +kernel
theorem dX3_push_41 : decode cX3_push 41 = .ok (.iconst 1, 1) := by decide +kernel
theorem dX3_push_42 : decode cX3_push 42 = .ok (.iadd, 1) := by decide +kernel
theorem dX3_push_43 : decode cX3_push 43 = .ok (.putfield 18, 3) := by decide +kernel
theorem dX3_push_46 : decode cX3_push 46 = .ok (.return_, 1) := by decide +kernel
abbrev rm_X3_push : Room := { frames := 0, cells := 0, slots := 0, locals := 0 }
set_option maxRecDepth 100000 in
set_option maxHeartbeats 4000000 in
theorem ct_X3_push {w : Wd} {l : Launch} {k0 : Nat} {a1 : Int} {a2 : Int} {σ : St} {σ' : St} (t0 : tg k0 = 3) (ia1 : InI a1) (ia2 : InI a2) (h : m_X3_push k0 a1 a2 σ = some σ') : Ct w l yX3_push (Cond.code yX3_push cX3_push 3 none :: TB) rm_X3_push [rv w k0, iv a1, iv a2] σ none True σ' := by
  refine Ct.of2 [some (rv w k0), some (iv a1), some (iv a2)] 0 rfl pn_RX3 (Nat.le_of_ble_eq_true rfl) ?_
  intro p e s m args below meth c C hr hlk
  unfold m_X3_push at h
  refine g_aload_n C dX3_push_0 rfl ?_
  refine g_getI (j := 2) C dX3_push_1 t0 (Nat.le_of_ble_eq_true rfl) (Nat.le_of_ble_eq_true rfl) fl_3_18 rfl rfl (fun i1 => ?_)
  refine g_if_lt C dX3_push_4 i1 rfl (tgt := 46) (fun c2 => ?_) (fun c2 => ?_)
  · have h := ifT c2 h
    exact g_vretP C dX3_push_46 hr hlk h
  · have h := ifF c2 h
    refine g_aload_n C dX3_push_7 rfl ?_
    refine g_getI (j := 2) C dX3_push_8 t0 (Nat.le_of_ble_eq_true rfl) (Nat.le_of_ble_eq_true rfl) fl_3_18 rfl rfl (fun i3 => ?_)
    refine g_bipush C dX3_push_11 rfl ?_
    refine g_icmp_ge C dX3_push_13 i3 (by decide) rfl (tgt := 46) (fun c4 => ?_) (fun c4 => ?_)
    · have h := ifT c4 h
      exact g_vretP C dX3_push_46 hr hlk h
    · have h := ifF c4 h
      refine g_aload_n C dX3_push_16 rfl ?_
      refine g_getR (j := 0) C dX3_push_17 t0 (Nat.le_of_ble_eq_true rfl) (Nat.le_of_ble_eq_true rfl) fl_3_11 rfl rfl (r := (k0 + 1)) (shR_3_0 t0) ?_
      refine g_aload_n C dX3_push_20 rfl ?_
      refine g_getI (j := 2) C dX3_push_21 t0 (Nat.le_of_ble_eq_true rfl) (Nat.le_of_ble_eq_true rfl) fl_3_18 rfl rfl (fun i5 => ?_)
      refine g_iload_n C dX3_push_24 rfl ?_
      obtain ⟨σ6, qσ6, h⟩ := bnd h
      refine g_iast C dX3_push_25 (shT_3_0 t0) (shL_3_0 t0) qσ6 i5 ia1 ?_
      refine g_aload_n C dX3_push_26 rfl ?_
      refine g_getR (j := 1) C dX3_push_27 t0 (Nat.le_of_ble_eq_true rfl) (Nat.le_of_ble_eq_true rfl) fl_3_15 rfl rfl (r := (k0 + 2)) (shR_3_1 t0) ?_
      refine g_aload_n C dX3_push_30 rfl ?_
      refine g_getI (j := 2) C dX3_push_31 t0 (Nat.le_of_ble_eq_true rfl) (Nat.le_of_ble_eq_true rfl) fl_3_18 rfl rfl (fun i7 => ?_)
      refine g_iload_n C dX3_push_34 rfl ?_
      obtain ⟨σ8, qσ8, h⟩ := bnd h
      refine g_iast C dX3_push_35 (shT_3_1 t0) (shL_3_1 t0) qσ8 i7 ia2 ?_
      refine g_aload_n C dX3_push_36 rfl ?_
      refine g_dup C dX3_push_37 rfl ?_
      refine g_getI (j := 2) C dX3_push_38 t0 (Nat.le_of_ble_eq_true rfl) (Nat.le_of_ble_eq_true rfl) fl_3_18 rfl rfl (fun i9 => ?_)
      refine g_iconst C dX3_push_41 ?_
      refine g_iadd C dX3_push_42 ?_
      obtain ⟨σ10, qσ10, h⟩ := bnd h
      refine g_putI (j := 2) C dX3_push_43 t0 (Nat.le_of_ble_eq_true rfl) (Nat.le_of_ble_eq_true rfl) fl_3_18 rfl rfl rfl rfl qσ10 (iwr _) ?_
      exact g_vretP C dX3_push_46 hr hlk h
theorem dX3_pop_0 : decode cX3_pop 0 = .ok (.aload_n 0, 1) := by decide +kernel
theorem dX3_pop_1 : decode cX3_pop 1 = .ok (.getfield 18, 3) := by decide +kernel
theorem dX3_pop_4 : decode cX3_pop 4 = .ok (.ifCond .le 12, 3) := by decide +kernel
theorem dX3_pop_7 : decode cX3_pop 7 = .ok (.aload_n 0, 1) := by decide +kernel
theorem dX3_pop_8 : decode cX3_pop 8 = .ok (.getfield 18, 3) := by decide +kernel
theorem dX3_pop_11 : decode cX3_pop 11 = .ok (.bipush 64, 2) := by decide +kernel
theorem dX3_pop_13 : decode cX3_pop 13 = .ok (.if_icmp .le 5, 3) := by decide +kernel
theorem dX3_pop_16 : decode cX3_pop 16 = .ok (.iconst (-1), 1) := by decide +kernel
theorem dX3_pop_17 : decode cX3_pop 17 = .ok (.ireturn, 1) := by decide +kernel
theorem dX3_pop_18 : decode cX3_pop 18 = .ok (.aload_n 0, 1) := by decide +kernel
theorem dX3_pop_19 : decode cX3_pop 19 = .ok (.dup, 1) := by decide +kernel
theorem dX3_pop_20 : decode cX3_pop 20 = .ok (.getfield 18, 3) := by decide +kernel
theorem dX3_pop_23 : decode cX3_pop 23 = .ok (.iconst 1, 1) := by decide +kernel
theorem dX3_pop_24 : decode cX3_pop 24 = .ok (.isub, 1) := by decide +kernel
theorem dX3_pop_25 : decode cX3_pop 25 = .ok (.putfield 18, 3) := by decide +kernel
theorem dX3_pop_28 : decode cX3_pop 28 = .ok (.aload_n 0, 1) := by decide +kernel
theorem dX3_pop_29 : decode cX3_pop 29 = .ok (.getfield 15, 3) := by decide +kernel
theorem dX3_pop_32 : decode cX3_pop 32 = .ok (.aload_n 0, 1) := by decide +kernel
theorem dX3_pop_33 : decode cX3_pop 33 = .ok (.getfield 18, 3) := by decide +kernel
theorem dX3_pop_36 : decode cX3_pop 36 = .ok (.iaload, 1) := by decide +kernel
theorem dX3_pop_37 : decode cX3_pop 37 = .ok (.ireturn, 1) := by decide +kernel
abbrev rm_X3_pop : Room := { frames := 0, cells := 0, slots := 0, locals := 0 }
set_option maxRecDepth 100000 in
set_option maxHeartbeats 4000000 in
theorem ct_X3_pop {w : Wd} {l : Launch} {k0 : Nat} {σ : St} {y : Int} {σ' : St} (t0 : tg k0 = 3) (h : m_X3_pop k0 σ = some (y, σ')) : Ct w l yX3_pop (Cond.code yX3_pop cX3_pop 1 (some .int) :: TB) rm_X3_pop [rv w k0] σ (some (iv y)) (InI y) σ' := by
  refine Ct.of2 [some (rv w k0)] 0 rfl pn_RX3 (Nat.le_of_ble_eq_true rfl) ?_
  intro p e s m args below meth c C hr hlk
  unfold m_X3_pop at h
  refine g_aload_n C dX3_pop_0 rfl ?_
  refine g_getI (j := 2) C dX3_pop_1 t0 (Nat.le_of_ble_eq_true rfl) (Nat.le_of_ble_eq_true rfl) fl_3_18 rfl rfl (fun i1 => ?_)
  refine g_if_le C dX3_pop_4 i1 rfl (tgt := 16) (fun c2 => ?_) (fun c2 => ?_)
  · have h := ifT c2 h
    refine g_iconst C dX3_pop_16 ?_
    exact g_iretP C dX3_pop_17 hr hlk h (by decide)
  · have h := ifF c2 h
    refine g_aload_n C dX3_pop_7 rfl ?_
    refine g_getI (j := 2) C dX3_pop_8 t0 (Nat.le_of_ble_eq_true rfl) (Nat.le_of_ble_eq_true rfl) fl_3_18 rfl rfl (fun i3 => ?_)
    refine g_bipush C dX3_pop_11 rfl ?_
    refine g_icmp_le C dX3_pop_13 i3 (by decide) rfl (tgt := 18) (fun c4 => ?_) (fun c4 => ?_)
    · have h := ifT c4 h
      refine g_aload_n C dX3_pop_18 rfl ?_
      refine g_dup C dX3_pop_19 rfl ?_
      refine g_getI (j := 2) C dX3_pop_20 t0 (Nat.le_of_ble_eq_true rfl) (Nat.le_of_ble_eq_true rfl) fl_3_18 rfl rfl (fun i5 => ?_)
      refine g_iconst C dX3_pop_23 ?_
      refine g_isub C dX3_pop_24 ?_
      obtain ⟨σ6, qσ6, h⟩ := bnd h
      refine g_putI (j := 2) C dX3_pop_25 t0 (Nat.le_of_ble_eq_true rfl) (Nat.le_of_ble_eq_true rfl) fl_3_18 rfl rfl rfl rfl qσ6 (iwr _) ?_
      refine g_aload_n C dX3_pop_28 rfl ?_
      refine g_getR (j := 1) C dX3_pop_29 t0 (Nat.le_of_ble_eq_true rfl) (Nat.le_of_ble_eq_true rfl) fl_3_15 rfl rfl (r := (k0 + 2)) (shR_3_1 t0) ?_
      refine g_aload_n C dX3_pop_32 rfl ?_
      refine g_getI (j := 2) C dX3_pop_33 t0 (Nat.le_of_ble_eq_true rfl) (Nat.le_of_ble_eq_true rfl) fl_3_18 rfl rfl (fun i7 => ?_)
      obtain ⟨x8, qx8, h⟩ := bnd h
      refine g_iald C dX3_pop_36 (shT_3_1 t0) (shL_3_1 t0) qx8 i7 (fun ix8 => ?_)
      exact g_iretP C dX3_pop_37 hr hlk h ix8
    · have h := ifF c4 h
      refine g_iconst C dX3_pop_16 ?_
      exact g_iretP C dX3_pop_17 hr hlk h (by decide)
theorem dX3_top_0 : decode cX3_top 0 = .ok (.aload_n 0, 1) := by decide +kernel
theorem dX3_top_1 : decode cX3_top 1 = .ok (.getfield 18, 3) := by decide +kernel
theorem dX3_top_4 : decode cX3_top 4 = .ok (.ifCond .le 26, 3) := by decide +kernel
theorem dX3_top_7 : decode cX3_top 7 = .ok (.aload_n 0, 1) := by decide +kernel
theorem dX3_top_8 : decode cX3_top 8 = .ok (.getfield 18, 3) := by decide +kernel
theorem dX3_top_11 : decode cX3_top 11 = .ok (.bipush 64, 2) := by decide +kernel
theorem dX3_top_13 : decode cX3_top 13 = .ok (.if_icmp .gt 17, 3) := by decide +kernel
theorem dX3_top_16 : decode cX3_top 16 = .ok (.aload_n 0, 1) := by decide +kernel
theorem dX3_top_17 : decode cX3_top 17 = .ok (.getfield 15, 3) := by decide +kernel
theorem dX3_top_20 : decode cX3_top 20 = .ok (.aload_n 0, 1) := by decide +kernel
theorem dX3_top_21 : decode cX3_top 21 = .ok (.getfield 18, 3) := by decide +kernel
theorem dX3_top_24 : decode cX3_top 24 = .ok (.iconst 1, 1) := by decide +kernel
theorem dX3_top_25 : decode cX3_top 25 = .ok (.isub, 1) := by decide +kernel
theorem dX3_top_26 : decode cX3_top 26 = .ok (.iaload, 1) := by decide +kernel
theorem dX3_top_27 : decode cX3_top 27 = .ok (.goto 4, 3) := by decide +kernel
theorem dX3_top_30 : decode cX3_top 30 = .ok (.iconst (-1), 1) := by decide +kernel
theorem dX3_top_31 : decode cX3_top 31 = .ok (.ireturn, 1) := by decide +kernel
abbrev rm_X3_top : Room := { frames := 0, cells := 0, slots := 0, locals := 0 }
set_option maxRecDepth 100000 in
set_option maxHeartbeats 4000000 in
theorem ct_X3_top {w : Wd} {l : Launch} {k0 : Nat} {σ : St} {y : Int} (t0 : tg k0 = 3) (h : m_X3_top k0 σ = some y) : Ct w l yX3_top (Cond.code yX3_top cX3_top 1 (some .int) :: TB) rm_X3_top [rv w k0] σ (some (iv y)) (InI y) σ := by
  refine Ct.of2 [some (rv w k0)] 0 rfl pn_RX3 (Nat.le_of_ble_eq_true rfl) ?_
  intro p e s m args below meth c C hr hlk
  unfold m_X3_top at h
  refine g_aload_n C dX3_top_0 rfl ?_
  refine g_getI (j := 2) C dX3_top_1 t0 (Nat.le_of_ble_eq_true rfl) (Nat.le_of_ble_eq_true rfl) fl_3_18 rfl rfl (fun i1 => ?_)
  refine g_if_le C dX3_top_4 i1 rfl (tgt := 30) (fun c2 => ?_) (fun c2 => ?_)
  · have h := ifT c2 h
    refine g_iconst C dX3_top_30 ?_
    exact g_iretU C dX3_top_31 hr hlk h (by decide)
  · have h := ifF c2 h
    refine g_aload_n C dX3_top_7 rfl ?_
    refine g_getI (j := 2) C dX3_top_8 t0 (Nat.le_of_ble_eq_true rfl) (Nat.le_of_ble_eq_true rfl) fl_3_18 rfl rfl (fun i3 => ?_)
    refine g_bipush C dX3_top_11 rfl ?_
    refine g_icmp_gt C dX3_top_13 i3 (by decide) rfl (tgt := 30) (fun c4 => ?_) (fun c4 => ?_)
    · have h := ifT c4 h
      refine g_iconst C dX3_top_30 ?_
      exact g_iretU C dX3_top_31 hr hlk h (by decide)
    · have h := ifF c4 h
      refine g_aload_n C dX3_top_16 rfl ?_
      refine g_getR (j := 1) C dX3_top_17 t0 (Nat.le_of_ble_eq_true rfl) (Nat.le_of_ble_eq_true rfl) fl_3_15 rfl rfl (r := (k0 + 2)) (shR_3_1 t0) ?_
      refine g_aload_n C dX3_top_20 rfl ?_
      refine g_getI (j := 2) C dX3_top_21 t0 (Nat.le_of_ble_eq_true rfl) (Nat.le_of_ble_eq_true rfl) fl_3_18 rfl rfl (fun i5 => ?_)
      refine g_iconst C dX3_top_24 ?_
      refine g_isub C dX3_top_25 ?_
      obtain ⟨x6, qx6, h⟩ := bnd h
      refine g_iald C dX3_top_26 (shT_3_1 t0) (shL_3_1 t0) qx6 (iwr _) (fun ix6 => ?_)
      refine g_goto C dX3_top_27 rfl (tgt := 31) ?_
      exact g_iretU C dX3_top_31 hr hlk h ix6
theorem dX3_innermost_0 : decode cX3_innermost 0 = .ok (.aload_n 0, 1) := by decide +kernel
theorem dX3_innermost_1 : decode cX3_innermost 1 = .ok (.getfield 18, 3) := by decide +kernel
theorem dX3_innermost_4 : decode cX3_innermost 4 = .ok (.bipush 64, 2) := by decide +kernel
theorem dX3_innermost_6 : decode cX3_innermost 6 = .ok (.invokestatic 22, 3) := by decide +kernel
theorem dX3_innermost_9 : decode cX3_innermost 9 = .ok (.iconst 1, 1) := by decide +kernel
theorem dX3_innermost_10 : decode cX3_innermost 10 = .ok (.isub, 1) := by decide +kernel
theorem dX3_innermost_11 : decode cX3_innermost 11 = .ok (.istore_n 2, 1) := by decide +kernel
theorem dX3_innermost_12 : decode cX3_innermost 12 = .ok (.iload_n 2, 1) := by decide +kernel
theorem dX3_innermost_13 : decode cX3_innermost 13 = .ok (.ifCond .lt 26, 3) := by decide +kernel
theorem dX3_innermost_16 : decode cX3_innermost 16 = .ok (.aload_n 0, 1) := by decide +kernel
theorem dX3_innermost_17 : decode cX3_innermost 17 = .ok (.getfield 11, 3) := by decide +kernel
theorem dX3_innermost_20 : decode cX3_innermost 20 = .ok (.iload_n 2, 1) := by decide +kernel
theorem dX3_innermost_21 : decode cX3_innermost 21 = .ok (.iaload, 1) := by decide +kernel
theorem dX3_innermost_22 : decode cX3_innermost 22 = .ok (.iload_n 1, 1) := by decide +kernel
theorem dX3_innermost_23 : decode cX3_innermost 23 = .ok (.if_icmp .ne 10, 3) := by decide +kernel
theorem dX3_innermost_26 : decode cX3_innermost 26 = .ok (.aload_n 0, 1) := by decide +kernel
theorem dX3_innermost_27 : decode cX3_innermost 27 = .ok (.getfield 15, 3) := by decide +kernel
theorem dX3_innermost_30 : decode cX3_innermost 30 = .ok (.iload_n 2, 1) := by decide +kernel
theorem dX3_innermost_31 : decode cX3_innermost 31 = .ok (.iaload, 1) := by decide +kernel
theorem dX3_innermost_32 : decode cX3_innermost 32 = .ok (.ireturn, 1) := by decide +kernel
theorem dX3_innermost_33 : decode cX3_innermost 33 = .ok (.iinc 2 (-1), 3) := by decide +kernel
theorem dX3_innermost_36 : decode cX3_innermost 36 = .ok (.goto (-24), 3) := by decide +kernel
theorem dX3_innermost_39 : decode cX3_innermost 39 = .ok (.iconst (-1), 1) := by decide +kernel
theorem dX3_innermost_40 : decode cX3_innermost 40 = .ok (.ireturn, 1) := by decide +kernel
abbrev rm_X3_innermost : Room := { frames := 1, cells := 0, slots := 0, locals := 21 }
set_option maxRecDepth 100000 in
set_option maxHeartbeats 4000000 in
theorem ct_X3_innermost {w : Wd} {l : Launch} {k0 : Nat} {a1 : Int} {σ : St} {y : Int} (t0 : tg k0 = 3) (ia1 : InI a1) (h : m_X3_innermost k0 a1 σ = some y) : Ct w l yX3_innermost (Cond.code yX3_innermost cX3_innermost 3 (some .int) :: TB) rm_X3_innermost [rv w k0, iv a1] σ (some (iv y)) (InI y) σ := by
  refine Ct.of2 [some (rv w k0), some (iv a1), none] 1 rfl pn_RX3 (Nat.le_of_ble_eq_true rfl) ?_
  intro p e s m args below meth c C hr hlk
  unfold m_X3_innermost at h
  refine g_aload_n C dX3_innermost_0 rfl ?_
  refine g_getI (j := 2) C dX3_innermost_1 t0 (Nat.le_of_ble_eq_true rfl) (Nat.le_of_ble_eq_true rfl) fl_3_18 rfl rfl (fun i1 => ?_)
  refine g_bipush C dX3_innermost_4 rfl ?_
  refine g_mmin C dX3_innermost_6 i1 (by decide) ml_3_22 ⟨Nat.le_of_ble_eq_true rfl, Nat.le_of_ble_eq_true rfl⟩ ⟨Nat.zero_le _, Nat.zero_le _⟩ ?_
  refine g_iconst C dX3_innermost_9 ?_
  refine g_isub C dX3_innermost_10 ?_
  obtain ⟨x2, qx2, h⟩ := bnd h
  have qx2 := Option.some.inj qx2
  have ix2 : InI x2 := by rw [← qx2]; exact (iwr _)
  refine g_E qx2 ?_
  refine g_istore_n (L1 := [some (rv w k0), some (iv a1), some (iv x2)]) C dX3_innermost_11 rfl (Nat.le_of_ble_eq_true rfl) rfl ?_
  obtain ⟨b3, hb3, hF3⟩ := bnd h
  have hX3 : Sum.inl () = b3 → GM w p l e rm_X3_innermost s m args below meth c (some (iv y)) (InI y) σ 3 39 [none, none, none] [] σ := by
    intro q
    subst q
    have h := hF3
    refine g_iconst C dX3_innermost_39 ?_
    exact g_iretU C dX3_innermost_40 hr hlk h (by decide)
  have hL3 : ∀ (n : Nat) (x4 : Int) , InI x4 → lpN (fun a => m_X3_innermost_L12 σ k0 a1 a) n x4 = some b3 → GM w p l e rm_X3_innermost s m args below meth c (some (iv y)) (InI y) σ 3 12 [some (rv w k0), some (iv a1), some (iv x4)] [] σ := by
    intro n
    induction n with
    | zero => intro x4 ix4 q; cases q
    | succ n ih3 =>
      intro x4 ix4 q
      obtain ⟨o3, h, hk3⟩ := lp_step q
      replace h : m_X3_innermost_L12 σ k0 a1 x4 = some o3 := h
      unfold m_X3_innermost_L12 at h
      refine g_iload_n C dX3_innermost_12 rfl ?_
      refine g_if_lt C dX3_innermost_13 ix4 rfl (tgt := 39) (fun c5 => ?_) (fun c5 => ?_)
      · have h := ifT c5 h
        refine g_mask [false, false, false] ?_
        obtain rfl := Option.some.inj h
        exact hX3  (lpR hk3).symm
      · have h := ifF c5 h
        refine g_aload_n C dX3_innermost_16 rfl ?_
        refine g_getR (j := 0) C dX3_innermost_17 t0 (Nat.le_of_ble_eq_true rfl) (Nat.le_of_ble_eq_true rfl) fl_3_11 rfl rfl (r := (k0 + 1)) (shR_3_0 t0) ?_
        refine g_iload_n C dX3_innermost_20 rfl ?_
        obtain ⟨x6, qx6, h⟩ := bnd h
        refine g_iald C dX3_innermost_21 (shT_3_0 t0) (shL_3_0 t0) qx6 ix4 (fun ix6 => ?_)
        refine g_iload_n C dX3_innermost_22 rfl ?_
        refine g_icmp_ne C dX3_innermost_23 ix6 ia1 rfl (tgt := 33) (fun c7 => ?_) (fun c7 => ?_)
        · have h := ifF c7 h
          refine g_iinc (L1 := [some (rv w k0), some (iv a1), some (iv (wr (x4 + (-1))))]) C dX3_innermost_33 rfl rfl (Nat.le_of_ble_eq_true rfl) rfl ?_
          refine g_goto C dX3_innermost_36 rfl (tgt := 12) ?_
          obtain rfl := Option.some.inj h
          exact ih3 _ (iwr _) (lpL hk3)
        · have h := ifT c7 h
          refine g_aload_n C dX3_innermost_26 rfl ?_
          refine g_getR (j := 1) C dX3_innermost_27 t0 (Nat.le_of_ble_eq_true rfl) (Nat.le_of_ble_eq_true rfl) fl_3_15 rfl rfl (r := (k0 + 2)) (shR_3_1 t0) ?_
          refine g_iload_n C dX3_innermost_30 rfl ?_
          obtain ⟨x8, qx8, h⟩ := bnd h
          refine g_iald C dX3_innermost_31 (shT_3_1 t0) (shL_3_1 t0) qx8 ix4 (fun ix8 => ?_)
          obtain rfl := Option.some.inj h
          have e3 := (lpR hk3).symm
          subst e3
          have h := hF3
          exact g_iretU C dX3_innermost_32 hr hlk h ix8
  exact hL3 FU _ ix2 hb3
theorem dX5_clear_0 : decode cX5_clear 0 = .ok (.aload_n 0, 1) := by decide +kernel
theorem dX5_clear_1 : decode cX5_clear 1 = .ok (.iconst 0, 1) := by decide +kernel
theorem dX5_clear_2 : decode cX5_clear 2 = .ok (.putfield 35, 3) := by decide +kernel
theorem dX5_clear_5 : decode cX5_clear 5 = .ok (.aload_n 0, 1) := by decide +kernel
theorem dX5_clear_6 : decode cX5_clear 6 = .ok (.iconst 0, 1) := by decide +kernel
theorem dX5_clear_7 : decode cX5_clear 7 = .ok (.putfield 39, 3) := by decide +kernel
theorem dX5_clear_10 : decode cX5_clear 10 = .ok (.return_, 1) := by decide +kernel
abbrev rm_X5_clear : Room := { frames := 0, cells := 0, slots := 0, locals := 0 }
set_option maxRecDepth 100000 in
set_option maxHeartbeats 4000000 in
theorem ct_X5_clear {w : Wd} {l : Launch} {k0 : Nat} {σ : St} {σ' : St} (t0 : tg k0 = 5) (h : m_X5_clear k0 σ = some σ') : Ct w l yX5_clear (Cond.code yX5_clear cX5_clear 1 none :: TB) rm_X5_clear [rv w k0] σ none True σ' := by
  refine Ct.of2 [some (rv w k0)] 0 rfl pn_RX5 (Nat.le_of_ble_eq_true rfl) ?_
  intro p e s m args below meth c C hr hlk
  unfold m_X5_clear at h
  refine g_aload_n C dX5_clear_0 rfl ?_
  refine g_iconst C dX5_clear_1 ?_
  obtain ⟨σ1, qσ1, h⟩ := bnd h
  refine g_putI (j := 7) C dX5_clear_2 t0 (Nat.le_of_ble_eq_true rfl) (Nat.le_of_ble_eq_true rfl) fl_5_35 rfl rfl rfl rfl qσ1 (by decide) ?_
  refine g_aload_n C dX5_clear_5 rfl ?_
  refine g_iconst C dX5_clear_6 ?_
  obtain ⟨σ2, qσ2, h⟩ := bnd h
  refine g_putI (j := 8) C dX5_clear_7 t0 (Nat.le_of_ble_eq_true rfl) (Nat.le_of_ble_eq_true rfl) fl_5_39 rfl rfl rfl rfl qσ2 (by decide) ?_
  exact g_vretP C dX5_clear_10 hr hlk h
theorem dX9_byteAt_0 : decode cX9_byteAt 0 = .ok (.iload_n 1, 1) := by decide +kernel
theorem dX9_byteAt_1 : decode cX9_byteAt 1 = .ok (.ifCond .lt 27, 3) := by decide +kernel
theorem dX9_byteAt_4 : decode cX9_byteAt 4 = .ok (.iload_n 1, 1) := by decide +kernel
theorem dX9_byteAt_5 : decode cX9_byteAt 5 = .ok (.aload_n 0, 1) := by decide +kernel
theorem dX9_byteAt_6 : decode cX9_byteAt 6 = .ok (.getfield 28, 3) := by decide +kernel
theorem dX9_byteAt_9 : decode cX9_byteAt 9 = .ok (.if_icmp .ge 19, 3) := by decide +kernel
theorem dX9_byteAt_12 : decode cX9_byteAt 12 = .ok (.iload_n 1, 1) := by decide +kernel
theorem dX9_byteAt_13 : decode cX9_byteAt 13 = .ok (.sipush 2000, 3) := by decide +kernel
theorem dX9_byteAt_16 : decode cX9_byteAt 16 = .ok (.if_icmp .ge 12, 3) := by decide +kernel
theorem dX9_byteAt_19 : decode cX9_byteAt 19 = .ok (.aload_n 0, 1) := by decide +kernel
theorem dX9_byteAt_20 : decode cX9_byteAt 20 = .ok (.getfield 25, 3) := by decide +kernel
theorem dX9_byteAt_23 : decode cX9_byteAt 23 = .ok (.iload_n 1, 1) := by decide +kernel
theorem dX9_byteAt_24 : decode cX9_byteAt 24 = .ok (.iaload, 1) := by decide +kernel
theorem dX9_byteAt_25 : decode cX9_byteAt 25 = .ok (.goto 4, 3) := by decide +kernel
theorem dX9_byteAt_28 : decode cX9_byteAt 28 = .ok (.iconst (-1), 1) := by decide +kernel
theorem dX9_byteAt_29 : decode cX9_byteAt 29 = .ok (.ireturn, 1) := by decide +kernel
abbrev rm_X9_byteAt : Room := { frames := 0, cells := 0, slots := 0, locals := 0 }
set_option maxRecDepth 100000 in
set_option maxHeartbeats 4000000 in
theorem ct_X9_byteAt {w : Wd} {l : Launch} {a1 : Int} {σ : St} {y : Int} (ia1 : InI a1) (h : m_X9_byteAt a1 σ = some y) : Ct w l yX9_byteAt (Cond.code yX9_byteAt cX9_byteAt 2 (some .int) :: TB) rm_X9_byteAt [rv w 16, iv a1] σ (some (iv y)) (InI y) σ := by
  refine Ct.of2 [some (rv w 16), some (iv a1)] 0 rfl pn_RX9 (Nat.le_of_ble_eq_true rfl) ?_
  intro p e s m args below meth c C hr hlk
  unfold m_X9_byteAt at h
  refine g_iload_n C dX9_byteAt_0 rfl ?_
  refine g_if_lt C dX9_byteAt_1 ia1 rfl (tgt := 28) (fun c1 => ?_) (fun c1 => ?_)
  · have h := ifT c1 h
    refine g_iconst C dX9_byteAt_28 ?_
    exact g_iretU C dX9_byteAt_29 hr hlk h (by decide)
  · have h := ifF c1 h
    refine g_iload_n C dX9_byteAt_4 rfl ?_
    refine g_aload_n C dX9_byteAt_5 rfl ?_
    refine g_getI (j := 0) C dX9_byteAt_6 rfl (Nat.le_of_ble_eq_true rfl) (Nat.le_of_ble_eq_true rfl) fl_9_28 rfl rfl (fun i2 => ?_)
    refine g_icmp_ge C dX9_byteAt_9 ia1 i2 rfl (tgt := 28) (fun c3 => ?_) (fun c3 => ?_)
    · have h := ifT c3 h
      refine g_iconst C dX9_byteAt_28 ?_
      exact g_iretU C dX9_byteAt_29 hr hlk h (by decide)
    · have h := ifF c3 h
      refine g_iload_n C dX9_byteAt_12 rfl ?_
      refine g_sipush C dX9_byteAt_13 rfl ?_
      refine g_icmp_ge C dX9_byteAt_16 ia1 (by decide) rfl (tgt := 28) (fun c4 => ?_) (fun c4 => ?_)
      · have h := ifT c4 h
        refine g_iconst C dX9_byteAt_28 ?_
        exact g_iretU C dX9_byteAt_29 hr hlk h (by decide)
      · have h := ifF c4 h
        refine g_aload_n C dX9_byteAt_19 rfl ?_
        refine g_getR (j := 5) C dX9_byteAt_20 rfl (Nat.le_of_ble_eq_true rfl) (Nat.le_of_ble_eq_true rfl) fl_9_25 rfl rfl (r := 21) rfl ?_
        refine g_iload_n C dX9_byteAt_23 rfl ?_
        obtain ⟨x5, qx5, h⟩ := bnd h
        refine g_iald C dX9_byteAt_24 rfl rfl qx5 ia1 (fun ix5 => ?_)
        refine g_goto C dX9_byteAt_25 rfl (tgt := 29) ?_
        exact g_iretU C dX9_byteAt_29 hr hlk h ix5
theorem dX9_isBlank_0 : decode cX9_isBlank 0 = .ok (.iload_n 0, 1) := by decide +kernel
theorem dX9_isBlank_1 : decode cX9_isBlank 1 = .ok (.bipush 9, 2) := by decide +kernel
theorem dX9_isBlank_3 : decode cX9_isBlank 3 = .ok (.if_icmp .eq 21, 3) := by decide +kernel
theorem dX9_isBlank_6 : decode cX9_isBlank 6 = .ok (.iload_n 0, 1) := by decide +kernel
theorem dX9_isBlank_7 : decode cX9_isBlank 7 = .ok (.bipush 10, 2) := by decide +kernel
theorem dX9_isBlank_9 : decode cX9_isBlank 9 = .ok (.if_icmp .eq 15, 3) := by decide +kernel
theorem dX9_isBlank_12 : decode cX9_isBlank 12 = .ok (.iload_n 0, 1) := by decide +kernel
theorem dX9_isBlank_13 : decode cX9_isBlank 13 = .ok (.bipush 13, 2) := by decide +kernel
theorem dX9_isBlank_15 : decode cX9_isBlank 15 = .ok (.if_icmp .eq 9, 3) := by decide +kernel
theorem dX9_isBlank_18 : decode cX9_isBlank 18 = .ok (.iload_n 0, 1) := by decide +kernel
theorem dX9_isBlank_19 : decode cX9_isBlank 19 = .ok (.bipush 32, 2) := by decide +kernel
theorem dX9_isBlank_21 : decode cX9_isBlank 21 = .ok (.if_icmp .ne 7, 3) := by decide +kernel
theorem dX9_isBlank_24 : decode cX9_isBlank 24 = .ok (.iconst 1, 1) := by decide +kernel
theorem dX9_isBlank_25 : decode cX9_isBlank 25 = .ok (.goto 4, 3) := by decide +kernel
theorem dX9_isBlank_28 : decode cX9_isBlank 28 = .ok (.iconst 0, 1) := by decide +kernel
theorem dX9_isBlank_29 : decode cX9_isBlank 29 = .ok (.ireturn, 1) := by decide +kernel
abbrev rm_X9_isBlank : Room := { frames := 0, cells := 0, slots := 0, locals := 0 }
set_option maxRecDepth 100000 in
set_option maxHeartbeats 4000000 in
theorem ct_X9_isBlank {w : Wd} {l : Launch} {a1 : Int} {σ : St} {y : Int} (ia1 : InI a1) (h : m_X9_isBlank a1 σ = some y) : Ct w l yX9_isBlank (Cond.code yX9_isBlank cX9_isBlank 1 (some .boolean) :: TB) rm_X9_isBlank [iv a1] σ (some (iv y)) (InZ y) σ := by
  refine Ct.of2 [some (iv a1)] 0 rfl pn_RX9 (Nat.le_of_ble_eq_true rfl) ?_
  intro p e s m args below meth c C hr hlk
  unfold m_X9_isBlank at h
  refine g_iload_n C dX9_isBlank_0 rfl ?_
  refine g_bipush C dX9_isBlank_1 rfl ?_
  refine g_icmp_eq C dX9_isBlank_3 ia1 (by decide) rfl (tgt := 24) (fun c1 => ?_) (fun c1 => ?_)
  · have h := ifT c1 h
    refine g_iconst C dX9_isBlank_24 ?_
    refine g_goto C dX9_isBlank_25 rfl (tgt := 29) ?_
    exact g_zretU C dX9_isBlank_29 hr hlk h (Or.inr rfl)
  · have h := ifF c1 h
    refine g_iload_n C dX9_isBlank_6 rfl ?_
    refine g_bipush C dX9_isBlank_7 rfl ?_
    refine g_icmp_eq C dX9_isBlank_9 ia1 (by decide) rfl (tgt := 24) (fun c2 => ?_) (fun c2 => ?_)
    · have h := ifT c2 h
      refine g_iconst C dX9_isBlank_24 ?_
      refine g_goto C dX9_isBlank_25 rfl (tgt := 29) ?_
      exact g_zretU C dX9_isBlank_29 hr hlk h (Or.inr rfl)
    · have h := ifF c2 h
      refine g_iload_n C dX9_isBlank_12 rfl ?_
      refine g_bipush C dX9_isBlank_13 rfl ?_
      refine g_icmp_eq C dX9_isBlank_15 ia1 (by decide) rfl (tgt := 24) (fun c3 => ?_) (fun c3 => ?_)
      · have h := ifT c3 h
        refine g_iconst C dX9_isBlank_24 ?_
        refine g_goto C dX9_isBlank_25 rfl (tgt := 29) ?_
        exact g_zretU C dX9_isBlank_29 hr hlk h (Or.inr rfl)
      · have h := ifF c3 h
        refine g_iload_n C dX9_isBlank_18 rfl ?_
        refine g_bipush C dX9_isBlank_19 rfl ?_
        refine g_icmp_ne C dX9_isBlank_21 ia1 (by decide) rfl (tgt := 28) (fun c4 => ?_) (fun c4 => ?_)
        · have h := ifF c4 h
          refine g_iconst C dX9_isBlank_28 ?_
          exact g_zretU C dX9_isBlank_29 hr hlk h (Or.inl rfl)
        · have h := ifT c4 h
          refine g_iconst C dX9_isBlank_24 ?_
          refine g_goto C dX9_isBlank_25 rfl (tgt := 29) ?_
          exact g_zretU C dX9_isBlank_29 hr hlk h (Or.inr rfl)
theorem dX9_isLetter_0 : decode cX9_isLetter 0 = .ok (.iload_n 0, 1) := by decide +kernel
theorem dX9_isLetter_1 : decode cX9_isLetter 1 = .ok (.bipush 97, 2) := by decide +kernel
theorem dX9_isLetter_3 : decode cX9_isLetter 3 = .ok (.if_icmp .lt 13, 3) := by decide +kernel
theorem dX9_isLetter_6 : decode cX9_isLetter 6 = .ok (.iload_n 0, 1) := by decide +kernel
theorem dX9_isLetter_7 : decode cX9_isLetter 7 = .ok (.bipush 122, 2) := by decide +kernel
theorem dX9_isLetter_9 : decode cX9_isLetter 9 = .ok (.if_icmp .gt 7, 3) := by decide +kernel
theorem dX9_isLetter_12 : decode cX9_isLetter 12 = .ok (.iconst 1, 1) := by decide +kernel
theorem dX9_isLetter_13 : decode cX9_isLetter 13 = .ok (.goto 4, 3) := by decide +kernel
theorem dX9_isLetter_16 : decode cX9_isLetter 16 = .ok (.iconst 0, 1) := by decide +kernel
theorem dX9_isLetter_17 : decode cX9_isLetter 17 = .ok (.ireturn, 1) := by decide +kernel
abbrev rm_X9_isLetter : Room := { frames := 0, cells := 0, slots := 0, locals := 0 }
set_option maxRecDepth 100000 in
set_option maxHeartbeats 4000000 in
theorem ct_X9_isLetter {w : Wd} {l : Launch} {a1 : Int} {σ : St} {y : Int} (ia1 : InI a1) (h : m_X9_isLetter a1 σ = some y) : Ct w l yX9_isLetter (Cond.code yX9_isLetter cX9_isLetter 1 (some .boolean) :: TB) rm_X9_isLetter [iv a1] σ (some (iv y)) (InZ y) σ := by
  refine Ct.of2 [some (iv a1)] 0 rfl pn_RX9 (Nat.le_of_ble_eq_true rfl) ?_
  intro p e s m args below meth c C hr hlk
  unfold m_X9_isLetter at h
  refine g_iload_n C dX9_isLetter_0 rfl ?_
  refine g_bipush C dX9_isLetter_1 rfl ?_
  refine g_icmp_lt C dX9_isLetter_3 ia1 (by decide) rfl (tgt := 16) (fun c1 => ?_) (fun c1 => ?_)
  · have h := ifT c1 h
    refine g_iconst C dX9_isLetter_16 ?_
    exact g_zretU C dX9_isLetter_17 hr hlk h (Or.inl rfl)
  · have h := ifF c1 h
    refine g_iload_n C dX9_isLetter_6 rfl ?_
    refine g_bipush C dX9_isLetter_7 rfl ?_
    refine g_icmp_gt C dX9_isLetter_9 ia1 (by decide) rfl (tgt := 16) (fun c2 => ?_) (fun c2 => ?_)
    · have h := ifT c2 h
      refine g_iconst C dX9_isLetter_16 ?_
      exact g_zretU C dX9_isLetter_17 hr hlk h (Or.inl rfl)
    · have h := ifF c2 h
      refine g_iconst C dX9_isLetter_12 ?_
      refine g_goto C dX9_isLetter_13 rfl (tgt := 17) ?_
      exact g_zretU C dX9_isLetter_17 hr hlk h (Or.inr rfl)
theorem dX9_withLetter_0 : decode cX9_withLetter 0 = .ok (.lload_n 0, 1) := by decide +kernel
theorem dX9_withLetter_1 : decode cX9_withLetter 1 = .ok (.iconst 5, 1) := by decide +kernel
theorem dX9_withLetter_2 : decode cX9_withLetter 2 = .ok (.lshl, 1) := by decide +kernel
theorem dX9_withLetter_3 : decode cX9_withLetter 3 = .ok (.iload_n 2, 1) := by decide +kernel
theorem dX9_withLetter_4 : decode cX9_withLetter 4 = .ok (.bipush 97, 2) := by decide +kernel
theorem dX9_withLetter_6 : decode cX9_withLetter 6 = .ok (.isub, 1) := by decide +kernel
theorem dX9_withLetter_7 : decode cX9_withLetter 7 = .ok (.iconst 1, 1) := by decide +kernel
theorem dX9_withLetter_8 : decode cX9_withLetter 8 = .ok (.iadd, 1) := by decide +kernel
theorem dX9_withLetter_9 : decode cX9_withLetter 9 = .ok (.i2l, 1) := by decide +kernel
theorem dX9_withLetter_10 : decode cX9_withLetter 10 = .ok (.lor, 1) := by decide +kernel
theorem dX9_withLetter_11 : decode cX9_withLetter 11 = .ok (.lreturn, 1) := by decide +kernel
abbrev rm_X9_withLetter : Room := { frames := 0, cells := 0, slots := 0, locals := 0 }
set_option maxRecDepth 100000 in
set_option maxHeartbeats 4000000 in
theorem ct_X9_withLetter {w : Wd} {l : Launch} {a1 : Int} {a2 : Int} {σ : St} {y : Int} (ia1 : InL a1) (ia2 : InI a2) (h : m_X9_withLetter a1 a2 σ = some y) : Ct w l yX9_withLetter (Cond.code yX9_withLetter cX9_withLetter 3 (some .long) :: TB) rm_X9_withLetter [jv a1, iv a2] σ (some (jv y)) (InL y) σ := by
  refine Ct.of2 [some (jv a1), none, some (iv a2)] 0 rfl pn_RX9 (Nat.le_of_ble_eq_true rfl) ?_
  intro p e s m args below meth c C hr hlk
  unfold m_X9_withLetter at h
  refine g_lload_n C dX9_withLetter_0 rfl ?_
  refine g_iconst C dX9_withLetter_1 ?_
  refine g_lshl C dX9_withLetter_2 ?_
  refine g_iload_n C dX9_withLetter_3 rfl ?_
  refine g_bipush C dX9_withLetter_4 rfl ?_
  refine g_isub C dX9_withLetter_6 ?_
  refine g_iconst C dX9_withLetter_7 ?_
  refine g_iadd C dX9_withLetter_8 ?_
  refine g_i2l C dX9_withLetter_9 (iwr _) ?_
  refine g_lor C dX9_withLetter_10 ?_
  exact g_lretU C dX9_withLetter_11 hr hlk h (iorL _ _)
theorem dX9_scanLetters_0 : decode cX9_scanLetters 0 = .ok (.lconst 0, 1) := by decide +kernel
theorem dX9_scanLetters_1 : decode cX9_scanLetters 1 = .ok (.lstore_n 1, 1) := by decide +kernel
theorem dX9_scanLetters_2 : decode cX9_scanLetters 2 = .ok (.aload_n 0, 1) := by decide +kernel
theorem dX9_scanLetters_3 : decode cX9_scanLetters 3 = .ok (.getfield 32, 3) := by decide +kernel
theorem dX9_scanLetters_6 : decode cX9_scanLetters 6 = .ok (.aload_n 0, 1) := by decide +kernel
theorem dX9_scanLetters_7 : decode cX9_scanLetters 7 = .ok (.getfield 28, 3) := by decide +kernel
theorem dX9_scanLetters_10 : decode cX9_scanLetters 10 = .ok (.if_icmp .ge 43, 3) := by decide +kernel
theorem dX9_scanLetters_13 : decode cX9_scanLetters 13 = .ok (.aload_n 0, 1) := by decide +kernel
theorem dX9_scanLetters_14 : decode cX9_scanLetters 14 = .ok (.aload_n 0, 1) := by decide +kernel
theorem dX9_scanLetters_15 : decode cX9_scanLetters 15 = .ok (.getfield 32, 3) := by decide +kernel
theorem dX9_scanLetters_18 : decode cX9_scanLetters 18 = .ok (.invokevirtual 39, 3) := by decide +kernel
theorem dX9_scanLetters_21 : decode cX9_scanLetters 21 = .ok (.invokestatic 46, 3) := by decide +kernel
theorem dX9_scanLetters_24 : decode cX9_scanLetters 24 = .ok (.ifCond .eq 29, 3) := by decide +kernel
theorem dX9_scanLetters_27 : decode cX9_scanLetters 27 = .ok (.lload_n 1, 1) := by decide +kernel
theorem dX9_scanLetters_28 : decode cX9_scanLetters 28 = .ok (.aload_n 0, 1) := by decide +kernel
theorem dX9_scanLetters_29 : decode cX9_scanLetters 29 = .ok (.aload_n 0, 1) := by decide +kernel
theorem dX9_scanLetters_30 : decode cX9_scanLetters 30 = .ok (.getfield 32, 3) := by decide +kernel
theorem dX9_scanLetters_33 : decode cX9_scanLetters 33 = .ok (.invokevirtual 39, 3) := by decide +kernel
theorem dX9_scanLetters_36 : decode cX9_scanLetters 36 = .ok (.invokestatic 64, 3) := by decide +kernel
theorem dX9_scanLetters_39 : decode cX9_scanLetters 39 = .ok (.lstore_n 1, 1) := by decide +kernel
theorem dX9_scanLetters_40 : decode cX9_scanLetters 40 = .ok (.aload_n 0, 1) := by decide +kernel
theorem dX9_scanLetters_41 : decode cX9_scanLetters 41 = .ok (.dup, 1) := by decide +kernel
theorem dX9_scanLetters_42 : decode cX9_scanLetters 42 = .ok (.getfield 32, 3) := by decide +kernel
theorem dX9_scanLetters_45 : decode cX9_scanLetters 45 = .ok (.iconst 1, 1) := by decide +kernel
theorem dX9_scanLetters_46 : decode cX9_scanLetters 46 = .ok (.iadd, 1) := by decide +kernel
theorem dX9_scanLetters_47 : decode cX9_scanLetters 47 = .ok (.putfield 32, 3) := by decide +kernel
theorem dX9_scanLetters_50 : decode cX9_scanLetters 50 = .ok (.goto (-48), 3) := by decide +kernel
theorem dX9_scanLetters_53 : decode cX9_scanLetters 53 = .ok (.lload_n 1, 1) := by decide +kernel
theorem dX9_scanLetters_54 : decode cX9_scanLetters 54 = .ok (.lreturn, 1) := by decide +kernel
abbrev rm_X9_scanLetters : Room := { frames := 1, cells := 0, slots := 0, locals := 22 }
set_option maxRecDepth 100000 in
set_option maxHeartbeats 4000000 in
theorem ct_X9_scanLetters {w : Wd} {l : Launch} {σ : St} {y : Int} {σ' : St} (h : m_X9_scanLetters σ = some (y, σ')) : Ct w l yX9_scanLetters (Cond.code yX9_scanLetters cX9_scanLetters 3 (some .long) :: TB) rm_X9_scanLetters [rv w 16] σ (some (jv y)) (InL y) σ' := by
  refine Ct.of2 [some (rv w 16), none, none] 2 rfl pn_RX9 (Nat.le_of_ble_eq_true rfl) ?_
  intro p e s m args below meth c C hr hlk
  unfold m_X9_scanLetters at h
  refine g_lconst0 C dX9_scanLetters_0 ?_
  refine g_lstore_n (L1 := [some (rv w 16), some (jv 0), none]) C dX9_scanLetters_1 rfl (Nat.le_of_ble_eq_true rfl) rfl ?_
  obtain ⟨b1, hb1, hF1⟩ := bnd h
  have hX1 : ∀ (x16 : Int) (σ17 : St) , InL x16 → (x16, σ17) = b1 → GM w p l e rm_X9_scanLetters s m args below meth c (some (jv y)) (InL y) σ' 3 53 [none, some (jv x16), none] [] σ17 := by
    intro x16 σ17 ix16 q
    subst q
    have h := hF1
    refine g_lload_n C dX9_scanLetters_53 rfl ?_
    exact g_lretP C dX9_scanLetters_54 hr hlk h ix16
  have hL1 : ∀ (n : Nat) (x2 : Int) (σ3 : St) , InL x2 → lpN (fun a => m_X9_scanLetters_L2 a.1 a.2) n (x2, σ3) = some b1 → GM w p l e rm_X9_scanLetters s m args below meth c (some (jv y)) (InL y) σ' 3 2 [some (rv w 16), some (jv x2), none] [] σ3 := by
    intro n
    induction n with
    | zero => intro x2 σ3 ix2 q; cases q
    | succ n ih1 =>
      intro x2 σ3 ix2 q
      obtain ⟨o1, h, hk1⟩ := lp_step q
      replace h : m_X9_scanLetters_L2 x2 σ3 = some o1 := h
      unfold m_X9_scanLetters_L2 at h
      refine g_aload_n C dX9_scanLetters_2 rfl ?_
      refine g_getI (j := 6) C dX9_scanLetters_3 rfl (Nat.le_of_ble_eq_true rfl) (Nat.le_of_ble_eq_true rfl) fl_9_32 rfl rfl (fun i4 => ?_)
      refine g_aload_n C dX9_scanLetters_6 rfl ?_
      refine g_getI (j := 0) C dX9_scanLetters_7 rfl (Nat.le_of_ble_eq_true rfl) (Nat.le_of_ble_eq_true rfl) fl_9_28 rfl rfl (fun i5 => ?_)
      refine g_icmp_ge C dX9_scanLetters_10 i4 i5 rfl (tgt := 53) (fun c6 => ?_) (fun c6 => ?_)
      · have h := ifT c6 h
        refine g_mask [false, true, true] ?_
        obtain rfl := Option.some.inj h
        exact hX1 x2 σ3 ix2 (lpR hk1).symm
      · have h := ifF c6 h
        refine g_aload_n C dX9_scanLetters_13 rfl ?_
        refine g_aload_n C dX9_scanLetters_14 rfl ?_
        refine g_getI (j := 6) C dX9_scanLetters_15 rfl (Nat.le_of_ble_eq_true rfl) (Nat.le_of_ble_eq_true rfl) fl_9_32 rfl rfl (fun i7 => ?_)
        obtain ⟨x8, qx8, h⟩ := bnd h
        refine g_callV1 (As := [iv (σ3 16 6)]) C dX9_scanLetters_18 mi_X9_byteAt ml_9_39 (ct_X9_byteAt i7 qx8) rfl rfl ⟨rfl, rfl⟩ ⟨Nat.le_of_ble_eq_true rfl, Nat.le_of_ble_eq_true rfl⟩ ⟨Nat.zero_le _, Nat.zero_le _⟩ rfl (Nat.le_of_ble_eq_true rfl) (fun ix8 => ?_)
        obtain ⟨x9, qx9, h⟩ := bnd h
        refine g_callS1 (As := [iv x8]) C dX9_scanLetters_21 mi_X9_isLetter ml_9_46 (ct_X9_isLetter ix8 qx9) rfl ⟨rfl, rfl⟩ ⟨Nat.le_of_ble_eq_true rfl, Nat.le_of_ble_eq_true rfl⟩ ⟨Nat.zero_le _, Nat.zero_le _⟩ rfl (Nat.le_of_ble_eq_true rfl) (fun ix9 => ?_)
        refine g_if_eq C dX9_scanLetters_24 (zI ix9) rfl (tgt := 53) (fun c10 => ?_) (fun c10 => ?_)
        · have h := ifT c10 h
          refine g_mask [false, true, true] ?_
          obtain rfl := Option.some.inj h
          exact hX1 x2 σ3 ix2 (lpR hk1).symm
        · have h := ifF c10 h
          refine g_lload_n C dX9_scanLetters_27 rfl ?_
          refine g_aload_n C dX9_scanLetters_28 rfl ?_
          refine g_aload_n C dX9_scanLetters_29 rfl ?_
          refine g_getI (j := 6) C dX9_scanLetters_30 rfl (Nat.le_of_ble_eq_true rfl) (Nat.le_of_ble_eq_true rfl) fl_9_32 rfl rfl (fun i11 => ?_)
          obtain ⟨x12, qx12, h⟩ := bnd h
          refine g_callV1 (As := [iv (σ3 16 6)]) C dX9_scanLetters_33 mi_X9_byteAt ml_9_39 (ct_X9_byteAt i11 qx12) rfl rfl ⟨rfl, rfl⟩ ⟨Nat.le_of_ble_eq_true rfl, Nat.le_of_ble_eq_true rfl⟩ ⟨Nat.zero_le _, Nat.zero_le _⟩ rfl (Nat.le_of_ble_eq_true rfl) (fun ix12 => ?_)
          obtain ⟨x13, qx13, h⟩ := bnd h
          refine g_callS1 (As := [jv x2, iv x12]) C dX9_scanLetters_36 mi_X9_withLetter ml_9_64 (ct_X9_withLetter ix2 ix12 qx13) rfl ⟨rfl, rfl⟩ ⟨Nat.le_of_ble_eq_true rfl, Nat.le_of_ble_eq_true rfl⟩ ⟨Nat.zero_le _, Nat.zero_le _⟩ rfl (Nat.le_of_ble_eq_true rfl) (fun ix13 => ?_)
          refine g_lstore_n (L1 := [some (rv w 16), some (jv x13), none]) C dX9_scanLetters_39 rfl (Nat.le_of_ble_eq_true rfl) rfl ?_
          refine g_aload_n C dX9_scanLetters_40 rfl ?_
          refine g_dup C dX9_scanLetters_41 rfl ?_
          refine g_getI (j := 6) C dX9_scanLetters_42 rfl (Nat.le_of_ble_eq_true rfl) (Nat.le_of_ble_eq_true rfl) fl_9_32 rfl rfl (fun i14 => ?_)
          refine g_iconst C dX9_scanLetters_45 ?_
          refine g_iadd C dX9_scanLetters_46 ?_
          obtain ⟨σ15, qσ15, h⟩ := bnd h
          refine g_putI (j := 6) C dX9_scanLetters_47 rfl (Nat.le_of_ble_eq_true rfl) (Nat.le_of_ble_eq_true rfl) fl_9_32 rfl rfl rfl rfl qσ15 (iwr _) ?_
          refine g_goto C dX9_scanLetters_50 rfl (tgt := 2) ?_
          obtain rfl := Option.some.inj h
          exact ih1 _ _ ix13 (lpL hk1)
  exact hL1 FU _ _ (by decide) hb1
theorem dX9_wordOf_0 : decode cX9_wordOf 0 = .ok (.lconst 0, 1) := by decide +kernel
theorem dX9_wordOf_1 : decode cX9_wordOf 1 = .ok (.lstore_n 2, 1) := by decide +kernel
theorem dX9_wordOf_2 : decode cX9_wordOf 2 = .ok (.iconst 0, 1) := by decide +kernel
theorem dX9_wordOf_3 : decode cX9_wordOf 3 = .ok (.istore 4, 2) := by decide +kernel
theorem dX9_wordOf_5 : decode cX9_wordOf 5 = .ok (.iconst 0, 1) := by decide +kernel
theorem dX9_wordOf_6 : decode cX9_wordOf 6 = .ok (.istore 5, 2) := by decide +kernel
theorem dX9_wordOf_8 : decode cX9_wordOf 8 = .ok (.iload 5, 2) := by decide +kernel
theorem dX9_wordOf_10 : decode cX9_wordOf 10 = .ok (.ldc 68, 2) := by decide +kernel
theorem dX9_wordOf_12 : decode cX9_wordOf 12 = .ok (.invokevirtual 70, 3) := by decide +kernel
theorem dX9_wordOf_15 : decode cX9_wordOf 15 = .ok (.if_icmp .ge 49, 3) := by decide +kernel
theorem dX9_wordOf_18 : decode cX9_wordOf 18 = .ok (.ldc 68, 2) := by decide +kernel
theorem dX9_wordOf_20 : decode cX9_wordOf 20 = .ok (.iload 5, 2) := by decide +kernel
theorem dX9_wordOf_22 : decode cX9_wordOf 22 = .ok (.invokevirtual 74, 3) := by decide +kernel
theorem dX9_wordOf_25 : decode cX9_wordOf 25 = .ok (.istore 6, 2) := by decide +kernel
theorem dX9_wordOf_27 : decode cX9_wordOf 27 = .ok (.iload 6, 2) := by decide +kernel
theorem dX9_wordOf_29 : decode cX9_wordOf 29 = .ok (.bipush 32, 2) := by decide +kernel
theorem dX9_wordOf_31 : decode cX9_wordOf 31 = .ok (.if_icmp .eq 13, 3) := by decide +kernel
theorem dX9_wordOf_34 : decode cX9_wordOf 34 = .ok (.lload_n 2, 1) := by decide +kernel
theorem dX9_wordOf_35 : decode cX9_wordOf 35 = .ok (.iload 6, 2) := by decide +kernel
theorem dX9_wordOf_37 : decode cX9_wordOf 37 = .ok (.invokestatic 64, 3) := by decide +kernel
theorem dX9_wordOf_40 : decode cX9_wordOf 40 = .ok (.lstore_n 2, 1) := by decide +kernel
theorem dX9_wordOf_41 : decode cX9_wordOf 41 = .ok (.goto 17, 3) := by decide +kernel
theorem dX9_wordOf_44 : decode cX9_wordOf 44 = .ok (.lload_n 2, 1) := by decide +kernel
theorem dX9_wordOf_45 : decode cX9_wordOf 45 = .ok (.lload_n 0, 1) := by decide +kernel
theorem dX9_wordOf_46 : decode cX9_wordOf 46 = .ok (.lcmp, 1) := by decide +kernel
theorem dX9_wordOf_47 : decode cX9_wordOf 47 = .ok (.ifCond .ne 6, 3) := by decide +kernel
theorem dX9_wordOf_50 : decode cX9_wordOf 50 = .ok (.iload 4, 2) := by decide +kernel
theorem dX9_wordOf_52 : decode cX9_wordOf 52 = .ok (.ireturn, 1) := by decide +kernel
theorem dX9_wordOf_53 : decode cX9_wordOf 53 = .ok (.lconst 0, 1) := by decide +kernel
theorem dX9_wordOf_54 : decode cX9_wordOf 54 = .ok (.lstore_n 2, 1) := by decide +kernel
theorem dX9_wordOf_55 : decode cX9_wordOf 55 = .ok (.iinc 4 1, 3) := by decide +kernel
theorem dX9_wordOf_58 : decode cX9_wordOf 58 = .ok (.iinc 5 1, 3) := by decide +kernel
theorem dX9_wordOf_61 : decode cX9_wordOf 61 = .ok (.goto (-53), 3) := by decide +kernel
theorem dX9_wordOf_64 : decode cX9_wordOf 64 = .ok (.lload_n 2, 1) := by decide +kernel
theorem dX9_wordOf_65 : decode cX9_wordOf 65 = .ok (.lload_n 0, 1) := by decide +kernel
theorem dX9_wordOf_66 : decode cX9_wordOf 66 = .ok (.lcmp, 1) := by decide +kernel
theorem dX9_wordOf_67 : decode cX9_wordOf 67 = .ok (.ifCond .ne 8, 3) := by decide +kernel
theorem dX9_wordOf_70 : decode cX9_wordOf 70 = .ok (.iload 4, 2) := by decide +kernel
theorem dX9_wordOf_72 : decode cX9_wordOf 72 = .ok (.goto 5, 3) := by decide +kernel
theorem dX9_wordOf_75 : decode cX9_wordOf 75 = .ok (.bipush 26, 2) := by decide +kernel
theorem dX9_wordOf_77 : decode cX9_wordOf 77 = .ok (.ireturn, 1) := by decide +kernel
abbrev rm_X9_wordOf : Room := { frames := 4, cells := 0, slots := 0, locals := 85 }
set_option maxRecDepth 100000 in
set_option maxHeartbeats 4000000 in
theorem ct_X9_wordOf {w : Wd} {l : Launch} {a1 : Int} {σ : St} {y : Int} (ia1 : InL a1) (h : m_X9_wordOf a1 σ = some y) : Ct w l yX9_wordOf (Cond.code yX9_wordOf cX9_wordOf 7 (some .int) :: TB) rm_X9_wordOf [jv a1] σ (some (iv y)) (InI y) σ := by
  refine Ct.of2 [some (jv a1), none, none, none, none, none, none] 5 rfl pn_RX9 (Nat.le_of_ble_eq_true rfl) ?_
  intro p e s m args below meth c C hr hlk
  unfold m_X9_wordOf at h
  refine g_lconst0 C dX9_wordOf_0 ?_
  refine g_lstore_n (L1 := [some (jv a1), none, some (jv 0), none, none, none, none]) C dX9_wordOf_1 rfl (Nat.le_of_ble_eq_true rfl) rfl ?_
  refine g_iconst C dX9_wordOf_2 ?_
  refine g_istore (L1 := [some (jv a1), none, some (jv 0), none, some (iv 0), none, none]) C dX9_wordOf_3 rfl (Nat.le_of_ble_eq_true rfl) rfl ?_
  refine g_iconst C dX9_wordOf_5 ?_
  refine g_istore (L1 := [some (jv a1), none, some (jv 0), none, some (iv 0), some (iv 0), none]) C dX9_wordOf_6 rfl (Nat.le_of_ble_eq_true rfl) rfl ?_
  obtain ⟨b1, hb1, hF1⟩ := bnd h
  have hX1 : ∀ (x10 : Int) (x11 : Int) , InL x10 → InI x11 → Sum.inl (x10, x11) = b1 → GM w p l e rm_X9_wordOf s m args below meth c (some (iv y)) (InI y) σ 7 64 [some (jv a1), none, some (jv x10), none, some (iv x11), none, none] [] σ := by
    intro x10 x11 ix10 ix11 q
    subst q
    have h := hF1
    refine g_lload_n C dX9_wordOf_64 rfl ?_
    refine g_lload_n C dX9_wordOf_65 rfl ?_
    refine g_lcmp C dX9_wordOf_66 ix10 ia1 ?_
    refine g_if_ne C dX9_wordOf_67 (ilcI _ _) rfl (tgt := 75) (fun c12 => ?_) (fun c12 => ?_)
    · have h := ifF c12 h
      refine g_bipush C dX9_wordOf_75 rfl ?_
      exact g_iretU C dX9_wordOf_77 hr hlk h (by decide)
    · have h := ifT c12 h
      refine g_iload C dX9_wordOf_70 rfl ?_
      refine g_goto C dX9_wordOf_72 rfl (tgt := 77) ?_
      exact g_iretU C dX9_wordOf_77 hr hlk h ix11
  have hL1 : ∀ (n : Nat) (x2 : Int) (x3 : Int) (x4 : Int) , InL x2 → InI x3 → InI x4 → lpN (fun a => m_X9_wordOf_L8 a1 σ a.1 a.2.1 a.2.2) n (x2, x3, x4) = some b1 → GM w p l e rm_X9_wordOf s m args below meth c (some (iv y)) (InI y) σ 7 8 [some (jv a1), none, some (jv x2), none, some (iv x3), some (iv x4), none] [] σ := by
    intro n
    induction n with
    | zero => intro x2 x3 x4 ix2 ix3 ix4 q; cases q
    | succ n ih1 =>
      intro x2 x3 x4 ix2 ix3 ix4 q
      obtain ⟨o1, h, hk1⟩ := lp_step q
      replace h : m_X9_wordOf_L8 a1 σ x2 x3 x4 = some o1 := h
      unfold m_X9_wordOf_L8 at h
      refine g_iload C dX9_wordOf_8 rfl ?_
      refine g_ldcS C dX9_wordOf_10 rfl ?_
      refine g_callT (As := []) C dX9_wordOf_12 mi_J0_length_8abf5 ml_9_70 ct_J0_length_8abf5 rfl ⟨rfl, rfl⟩ ⟨Nat.le_of_ble_eq_true rfl, Nat.le_of_ble_eq_true rfl⟩ ⟨Nat.zero_le _, Nat.zero_le _⟩ rfl (Nat.le_of_ble_eq_true rfl) (fun _ => ?_)
      refine g_icmp_ge C dX9_wordOf_15 ix4 (by decide) rfl (tgt := 64) (fun c5 => ?_) (fun c5 => ?_)
      · have h := ifT c5 h
        refine g_mask [true, true, true, true, true, false, true] ?_
        obtain rfl := Option.some.inj h
        exact hX1 x2 x3 ix2 ix3 (lpR hk1).symm
      · have h := ifF c5 h
        refine g_ldcS C dX9_wordOf_18 rfl ?_
        refine g_iload C dX9_wordOf_20 rfl ?_
        obtain ⟨x6, qx6, h⟩ := bnd h
        obtain ⟨rx6, qx6⟩ := rc_spec qx6
        have ix6 : InI x6 := by rw [qx6]; exact ichr _
        refine g_callT (As := [iv x4]) C dX9_wordOf_22 mi_J0_charAt_5068e ml_9_74 (ct_J0_charAt_5068e ix4 rx6) rfl ⟨rfl, rfl⟩ ⟨Nat.le_of_ble_eq_true rfl, Nat.le_of_ble_eq_true rfl⟩ ⟨Nat.zero_le _, Nat.zero_le _⟩ rfl (Nat.le_of_ble_eq_true rfl) (fun _ => ?_)
        refine g_E qx6.symm ?_
        refine g_istore (L1 := [some (jv a1), none, some (jv x2), none, some (iv x3), some (iv x4), some (iv x6)]) C dX9_wordOf_25 rfl (Nat.le_of_ble_eq_true rfl) rfl ?_
        refine g_iload C dX9_wordOf_27 rfl ?_
        refine g_bipush C dX9_wordOf_29 rfl ?_
        refine g_icmp_eq C dX9_wordOf_31 ix6 (by decide) rfl (tgt := 44) (fun c7 => ?_) (fun c7 => ?_)
        · have h := ifT c7 h
          refine g_lload_n C dX9_wordOf_44 rfl ?_
          refine g_lload_n C dX9_wordOf_45 rfl ?_
          refine g_lcmp C dX9_wordOf_46 ix2 ia1 ?_
          refine g_if_ne C dX9_wordOf_47 (ilcI _ _) rfl (tgt := 53) (fun c8 => ?_) (fun c8 => ?_)
          · have h := ifF c8 h
            refine g_lconst0 C dX9_wordOf_53 ?_
            refine g_lstore_n (L1 := [some (jv a1), none, some (jv 0), none, some (iv x3), some (iv x4), some (iv x6)]) C dX9_wordOf_54 rfl (Nat.le_of_ble_eq_true rfl) rfl ?_
            refine g_iinc (L1 := [some (jv a1), none, some (jv 0), none, some (iv (wr (x3 + 1))), some (iv x4), some (iv x6)]) C dX9_wordOf_55 rfl rfl (Nat.le_of_ble_eq_true rfl) rfl ?_
            refine g_iinc (L1 := [some (jv a1), none, some (jv 0), none, some (iv (wr (x3 + 1))), some (iv (wr (x4 + 1))), some (iv x6)]) C dX9_wordOf_58 rfl rfl (Nat.le_of_ble_eq_true rfl) rfl ?_
            refine g_goto C dX9_wordOf_61 rfl (tgt := 8) ?_
            refine g_mask [true, true, true, true, true, true, false] ?_
            obtain rfl := Option.some.inj h
            exact ih1 _ _ _ (by decide) (iwr _) (iwr _) (lpL hk1)
          · have h := ifT c8 h
            refine g_iload C dX9_wordOf_50 rfl ?_
            obtain rfl := Option.some.inj h
            have e1 := (lpR hk1).symm
            subst e1
            have h := hF1
            exact g_iretU C dX9_wordOf_52 hr hlk h ix3
        · have h := ifF c7 h
          refine g_lload_n C dX9_wordOf_34 rfl ?_
          refine g_iload C dX9_wordOf_35 rfl ?_
          obtain ⟨x9, qx9, h⟩ := bnd h
          refine g_callS1 (As := [jv x2, iv x6]) C dX9_wordOf_37 mi_X9_withLetter ml_9_64 (ct_X9_withLetter ix2 ix6 qx9) rfl ⟨rfl, rfl⟩ ⟨Nat.le_of_ble_eq_true rfl, Nat.le_of_ble_eq_true rfl⟩ ⟨Nat.zero_le _, Nat.zero_le _⟩ rfl (Nat.le_of_ble_eq_true rfl) (fun ix9 => ?_)
          refine g_lstore_n (L1 := [some (jv a1), none, some (jv x9), none, some (iv x3), some (iv x4), some (iv x6)]) C dX9_wordOf_40 rfl (Nat.le_of_ble_eq_true rfl) rfl ?_
          refine g_goto C dX9_wordOf_41 rfl (tgt := 58) ?_
          refine g_iinc (L1 := [some (jv a1), none, some (jv x9), none, some (iv x3), some (iv (wr (x4 + 1))), some (iv x6)]) C dX9_wordOf_58 rfl rfl (Nat.le_of_ble_eq_true rfl) rfl ?_
          refine g_goto C dX9_wordOf_61 rfl (tgt := 8) ?_
          refine g_mask [true, true, true, true, true, true, false] ?_
          obtain rfl := Option.some.inj h
          exact ih1 _ _ _ ix9 ix3 (iwr _) (lpL hk1)
  exact hL1 FU _ _ _ (by decide) (by decide) (by decide) hb1
theorem dX9_isDigit_0 : decode cX9_isDigit 0 = .ok (.iload_n 0, 1) := by decide +kernel
theorem dX9_isDigit_1 : decode cX9_isDigit 1 = .ok (.bipush 48, 2) := by decide +kernel
theorem dX9_isDigit_3 : decode cX9_isDigit 3 = .ok (.if_icmp .lt 13, 3) := by decide +kernel
theorem dX9_isDigit_6 : decode cX9_isDigit 6 = .ok (.iload_n 0, 1) := by decide +kernel
theorem dX9_isDigit_7 : decode cX9_isDigit 7 = .ok (.bipush 57, 2) := by decide +kernel
theorem dX9_isDigit_9 : decode cX9_isDigit 9 = .ok (.if_icmp .gt 7, 3) := by decide +kernel
theorem dX9_isDigit_12 : decode cX9_isDigit 12 = .ok (.iconst 1, 1) := by decide +kernel
theorem dX9_isDigit_13 : decode cX9_isDigit 13 = .ok (.goto 4, 3) := by decide +kernel
theorem dX9_isDigit_16 : decode cX9_isDigit 16 = .ok (.iconst 0, 1) := by decide +kernel
theorem dX9_isDigit_17 : decode cX9_isDigit 17 = .ok (.ireturn, 1) := by decide +kernel
abbrev rm_X9_isDigit : Room := { frames := 0, cells := 0, slots := 0, locals := 0 }
set_option maxRecDepth 100000 in
set_option maxHeartbeats 4000000 in
theorem ct_X9_isDigit {w : Wd} {l : Launch} {a1 : Int} {σ : St} {y : Int} (ia1 : InI a1) (h : m_X9_isDigit a1 σ = some y) : Ct w l yX9_isDigit (Cond.code yX9_isDigit cX9_isDigit 1 (some .boolean) :: TB) rm_X9_isDigit [iv a1] σ (some (iv y)) (InZ y) σ := by
  refine Ct.of2 [some (iv a1)] 0 rfl pn_RX9 (Nat.le_of_ble_eq_true rfl) ?_
  intro p e s m args below meth c C hr hlk
  unfold m_X9_isDigit at h
  refine g_iload_n C dX9_isDigit_0 rfl ?_
  refine g_bipush C dX9_isDigit_1 rfl ?_
  refine g_icmp_lt C dX9_isDigit_3 ia1 (by decide) rfl (tgt := 16) (fun c1 => ?_) (fun c1 => ?_)
  · have h := ifT c1 h
    refine g_iconst C dX9_isDigit_16 ?_
    exact g_zretU C dX9_isDigit_17 hr hlk h (Or.inl rfl)
  · have h := ifF c1 h
    refine g_iload_n C dX9_isDigit_6 rfl ?_
    refine g_bipush C dX9_isDigit_7 rfl ?_
    refine g_icmp_gt C dX9_isDigit_9 ia1 (by decide) rfl (tgt := 16) (fun c2 => ?_) (fun c2 => ?_)
    · have h := ifT c2 h
      refine g_iconst C dX9_isDigit_16 ?_
      exact g_zretU C dX9_isDigit_17 hr hlk h (Or.inl rfl)
    · have h := ifF c2 h
      refine g_iconst C dX9_isDigit_12 ?_
      refine g_goto C dX9_isDigit_13 rfl (tgt := 17) ?_
      exact g_zretU C dX9_isDigit_17 hr hlk h (Or.inr rfl)
theorem dX9_scanDigits_0 : decode cX9_scanDigits 0 = .ok (.iconst 0, 1) := by decide +kernel
theorem dX9_scanDigits_1 : decode cX9_scanDigits 1 = .ok (.istore_n 1, 1) := by decide +kernel
theorem dX9_scanDigits_2 : decode cX9_scanDigits 2 = .ok (.aload_n 0, 1) := by decide +kernel
theorem dX9_scanDigits_3 : decode cX9_scanDigits 3 = .ok (.getfield 32, 3) := by decide +kernel
theorem dX9_scanDigits_6 : decode cX9_scanDigits 6 = .ok (.aload_n 0, 1) := by decide +kernel
theorem dX9_scanDigits_7 : decode cX9_scanDigits 7 = .ok (.getfield 28, 3) := by decide +kernel
theorem dX9_scanDigits_10 : decode cX9_scanDigits 10 = .ok (.if_icmp .ge 47, 3) := by decide +kernel
theorem dX9_scanDigits_13 : decode cX9_scanDigits 13 = .ok (.aload_n 0, 1) := by decide +kernel
theorem dX9_scanDigits_14 : decode cX9_scanDigits 14 = .ok (.aload_n 0, 1) := by decide +kernel
theorem dX9_scanDigits_15 : decode cX9_scanDigits 15 = .ok (.getfield 32, 3) := by decide +kernel
theorem dX9_scanDigits_18 : decode cX9_scanDigits 18 = .ok (.invokevirtual 39, 3) := by decide +kernel
theorem dX9_scanDigits_21 : decode cX9_scanDigits 21 = .ok (.invokestatic 57, 3) := by decide +kernel
theorem dX9_scanDigits_24 : decode cX9_scanDigits 24 = .ok (.ifCond .eq 33, 3) := by decide +kernel
theorem dX9_scanDigits_27 : decode cX9_scanDigits 27 = .ok (.iload_n 1, 1) := by decide +kernel
theorem dX9_scanDigits_28 : decode cX9_scanDigits 28 = .ok (.bipush 10, 2) := by decide +kernel
theorem dX9_scanDigits_30 : decode cX9_scanDigits 30 = .ok (.imul, 1) := by decide +kernel
theorem dX9_scanDigits_31 : decode cX9_scanDigits 31 = .ok (.aload_n 0, 1) := by decide +kernel
theorem dX9_scanDigits_32 : decode cX9_scanDigits 32 = .ok (.aload_n 0, 1) := by decide +kernel
theorem dX9_scanDigits_33 : decode cX9_scanDigits 33 = .ok (.getfield 32, 3) := by decide +kernel
theorem dX9_scanDigits_36 : decode cX9_scanDigits 36 = .ok (.invokevirtual 39, 3) := by decide +kernel
theorem dX9_scanDigits_39 : decode cX9_scanDigits 39 = .ok (.iadd, 1) := by decide +kernel
theorem dX9_scanDigits_40 : decode cX9_scanDigits 40 = .ok (.bipush 48, 2) := by decide +kernel
theorem dX9_scanDigits_42 : decode cX9_scanDigits 42 = .ok (.isub, 1) := by decide +kernel
theorem dX9_scanDigits_43 : decode cX9_scanDigits 43 = .ok (.istore_n 1, 1) := by decide +kernel
theorem dX9_scanDigits_44 : decode cX9_scanDigits 44 = .ok (.aload_n 0, 1) := by decide +kernel
theorem dX9_scanDigits_45 : decode cX9_scanDigits 45 = .ok (.dup, 1) := by decide +kernel
theorem dX9_scanDigits_46 : decode cX9_scanDigits 46 = .ok (.getfield 32, 3) := by decide +kernel
theorem dX9_scanDigits_49 : decode cX9_scanDigits 49 = .ok (.iconst 1, 1) := by decide +kernel
theorem dX9_scanDigits_50 : decode cX9_scanDigits 50 = .ok (.iadd, 1) := by decide +kernel
theorem dX9_scanDigits_51 : decode cX9_scanDigits 51 = .ok (.putfield 32, 3) := by decide +kernel
theorem dX9_scanDigits_54 : decode cX9_scanDigits 54 = .ok (.goto (-52), 3) := by decide +kernel
theorem dX9_scanDigits_57 : decode cX9_scanDigits 57 = .ok (.iload_n 1, 1) := by decide +kernel
theorem dX9_scanDigits_58 : decode cX9_scanDigits 58 = .ok (.ireturn, 1) := by decide +kernel
abbrev rm_X9_scanDigits : Room := { frames := 1, cells := 0, slots := 0, locals := 21 }
set_option maxRecDepth 100000 in
set_option maxHeartbeats 4000000 in
theorem ct_X9_scanDigits {w : Wd} {l : Launch} {σ : St} {y : Int} {σ' : St} (h : m_X9_scanDigits σ = some (y, σ')) : Ct w l yX9_scanDigits (Cond.code yX9_scanDigits cX9_scanDigits 2 (some .int) :: TB) rm_X9_scanDigits [rv w 16] σ (some (iv y)) (InI y) σ' := by
  refine Ct.of2 [some (rv w 16), none] 1 rfl pn_RX9 (Nat.le_of_ble_eq_true rfl) ?_
  intro p e s m args below meth c C hr hlk
  unfold m_X9_scanDigits at h
  refine g_iconst C dX9_scanDigits_0 ?_
  refine g_istore_n (L1 := [some (rv w 16), some (iv 0)]) C dX9_scanDigits_1 rfl (Nat.le_of_ble_eq_true rfl) rfl ?_
  obtain ⟨b1, hb1, hF1⟩ := bnd h
  have hX1 : ∀ (x16 : Int) (σ17 : St) , InI x16 → (x16, σ17) = b1 → GM w p l e rm_X9_scanDigits s m args below meth c (some (iv y)) (InI y) σ' 2 57 [none, some (iv x16)] [] σ17 := by
    intro x16 σ17 ix16 q
    subst q
    have h := hF1
    refine g_iload_n C dX9_scanDigits_57 rfl ?_
    exact g_iretP C dX9_scanDigits_58 hr hlk h ix16
  have hL1 : ∀ (n : Nat) (x2 : Int) (σ3 : St) , InI x2 → lpN (fun a => m_X9_scanDigits_L2 a.1 a.2) n (x2, σ3) = some b1 → GM w p l e rm_X9_scanDigits s m args below meth c (some (iv y)) (InI y) σ' 2 2 [some (rv w 16), some (iv x2)] [] σ3 := by
    intro n
    induction n with
    | zero => intro x2 σ3 ix2 q; cases q
    | succ n ih1 =>
      intro x2 σ3 ix2 q
      obtain ⟨o1, h, hk1⟩ := lp_step q
      replace h : m_X9_scanDigits_L2 x2 σ3 = some o1 := h
      unfold m_X9_scanDigits_L2 at h
      refine g_aload_n C dX9_scanDigits_2 rfl ?_
      refine g_getI (j := 6) C dX9_scanDigits_3 rfl (Nat.le_of_ble_eq_true rfl) (Nat.le_of_ble_eq_true rfl) fl_9_32 rfl rfl (fun i4 => ?_)
      refine g_aload_n C dX9_scanDigits_6 rfl ?_
      refine g_getI (j := 0) C dX9_scanDigits_7 rfl (Nat.le_of_ble_eq_true rfl) (Nat.le_of_ble_eq_true rfl) fl_9_28 rfl rfl (fun i5 => ?_)
      refine g_icmp_ge C dX9_scanDigits_10 i4 i5 rfl (tgt := 57) (fun c6 => ?_) (fun c6 => ?_)
      · have h := ifT c6 h
        refine g_mask [false, true] ?_
        obtain rfl := Option.some.inj h
        exact hX1 x2 σ3 ix2 (lpR hk1).symm
      · have h := ifF c6 h
        refine g_aload_n C dX9_scanDigits_13 rfl ?_
        refine g_aload_n C dX9_scanDigits_14 rfl ?_
        refine g_getI (j := 6) C dX9_scanDigits_15 rfl (Nat.le_of_ble_eq_true rfl) (Nat.le_of_ble_eq_true rfl) fl_9_32 rfl rfl (fun i7 => ?_)
        obtain ⟨x8, qx8, h⟩ := bnd h
        refine g_callV1 (As := [iv (σ3 16 6)]) C dX9_scanDigits_18 mi_X9_byteAt ml_9_39 (ct_X9_byteAt i7 qx8) rfl rfl ⟨rfl, rfl⟩ ⟨Nat.le_of_ble_eq_true rfl, Nat.le_of_ble_eq_true rfl⟩ ⟨Nat.zero_le _, Nat.zero_le _⟩ rfl (Nat.le_of_ble_eq_true rfl) (fun ix8 => ?_)
        obtain ⟨x9, qx9, h⟩ := bnd h
        refine g_callS1 (As := [iv x8]) C dX9_scanDigits_21 mi_X9_isDigit ml_9_57 (ct_X9_isDigit ix8 qx9) rfl ⟨rfl, rfl⟩ ⟨Nat.le_of_ble_eq_true rfl, Nat.le_of_ble_eq_true rfl⟩ ⟨Nat.zero_le _, Nat.zero_le _⟩ rfl (Nat.le_of_ble_eq_true rfl) (fun ix9 => ?_)
        refine g_if_eq C dX9_scanDigits_24 (zI ix9) rfl (tgt := 57) (fun c10 => ?_) (fun c10 => ?_)
        · have h := ifT c10 h
          refine g_mask [false, true] ?_
          obtain rfl := Option.some.inj h
          exact hX1 x2 σ3 ix2 (lpR hk1).symm
        · have h := ifF c10 h
          refine g_iload_n C dX9_scanDigits_27 rfl ?_
          refine g_bipush C dX9_scanDigits_28 rfl ?_
          refine g_imul C dX9_scanDigits_30 ?_
          refine g_aload_n C dX9_scanDigits_31 rfl ?_
          refine g_aload_n C dX9_scanDigits_32 rfl ?_
          refine g_getI (j := 6) C dX9_scanDigits_33 rfl (Nat.le_of_ble_eq_true rfl) (Nat.le_of_ble_eq_true rfl) fl_9_32 rfl rfl (fun i11 => ?_)
          obtain ⟨x12, qx12, h⟩ := bnd h
          refine g_callV1 (As := [iv (σ3 16 6)]) C dX9_scanDigits_36 mi_X9_byteAt ml_9_39 (ct_X9_byteAt i11 qx12) rfl rfl ⟨rfl, rfl⟩ ⟨Nat.le_of_ble_eq_true rfl, Nat.le_of_ble_eq_true rfl⟩ ⟨Nat.zero_le _, Nat.zero_le _⟩ rfl (Nat.le_of_ble_eq_true rfl) (fun ix12 => ?_)
          refine g_iadd C dX9_scanDigits_39 ?_
          refine g_bipush C dX9_scanDigits_40 rfl ?_
          refine g_isub C dX9_scanDigits_42 ?_
          obtain ⟨x13, qx13, h⟩ := bnd h
          have qx13 := Option.some.inj qx13
          have ix13 : InI x13 := by rw [← qx13]; exact (iwr _)
          refine g_E qx13 ?_
          refine g_istore_n (L1 := [some (rv w 16), some (iv x13)]) C dX9_scanDigits_43 rfl (Nat.le_of_ble_eq_true rfl) rfl ?_
          refine g_aload_n C dX9_scanDigits_44 rfl ?_
          refine g_dup C dX9_scanDigits_45 rfl ?_
          refine g_getI (j := 6) C dX9_scanDigits_46 rfl (Nat.le_of_ble_eq_true rfl) (Nat.le_of_ble_eq_true rfl) fl_9_32 rfl rfl (fun i14 => ?_)
          refine g_iconst C dX9_scanDigits_49 ?_
          refine g_iadd C dX9_scanDigits_50 ?_
          obtain ⟨σ15, qσ15, h⟩ := bnd h
          refine g_putI (j := 6) C dX9_scanDigits_51 rfl (Nat.le_of_ble_eq_true rfl) (Nat.le_of_ble_eq_true rfl) fl_9_32 rfl rfl rfl rfl qσ15 (iwr _) ?_
          refine g_goto C dX9_scanDigits_54 rfl (tgt := 2) ?_
          obtain rfl := Option.some.inj h
          exact ih1 _ _ ix13 (lpL hk1)
  exact hL1 FU _ _ (by decide) hb1
theorem dX9_scanToken_0 : decode cX9_scanToken 0 = .ok (.iload_n 1, 1) := by decide +kernel
theorem dX9_scanToken_1 : decode cX9_scanToken 1 = .ok (.ifCond .lt 10, 3) := by decide +kernel
theorem dX9_scanToken_4 : decode cX9_scanToken 4 = .ok (.iload_n 1, 1) := by decide +kernel
theorem dX9_scanToken_5 : decode cX9_scanToken 5 = .ok (.sipush 502, 3) := by decide +kernel
theorem dX9_scanToken_8 : decode cX9_scanToken 8 = .ok (.if_icmp .lt 6, 3) := by decide +kernel
theorem dX9_scanToken_11 : decode cX9_scanToken 11 = .ok (.bipush 29, 2) := by decide +kernel
theorem dX9_scanToken_13 : decode cX9_scanToken 13 = .ok (.ireturn, 1) := by decide +kernel
theorem dX9_scanToken_14 : decode cX9_scanToken 14 = .ok (.aload_n 0, 1) := by decide +kernel
theorem dX9_scanToken_15 : decode cX9_scanToken 15 = .ok (.getfield 32, 3) := by decide +kernel
theorem dX9_scanToken_18 : decode cX9_scanToken 18 = .ok (.aload_n 0, 1) := by decide +kernel
theorem dX9_scanToken_19 : decode cX9_scanToken 19 = .ok (.getfield 28, 3) := by decide +kernel
theorem dX9_scanToken_22 : decode cX9_scanToken 22 = .ok (.if_icmp .ge 30, 3) := by decide +kernel
theorem dX9_scanToken_25 : decode cX9_scanToken 25 = .ok (.aload_n 0, 1) := by decide +kernel
theorem dX9_scanToken_26 : decode cX9_scanToken 26 = .ok (.aload_n 0, 1) := by decide +kernel
theorem dX9_scanToken_27 : decode cX9_scanToken 27 = .ok (.getfield 32, 3) := by decide +kernel
theorem dX9_scanToken_30 : decode cX9_scanToken 30 = .ok (.invokevirtual 39, 3) := by decide +kernel
theorem dX9_scanToken_33 : decode cX9_scanToken 33 = .ok (.invokestatic 42, 3) := by decide +kernel
theorem dX9_scanToken_36 : decode cX9_scanToken 36 = .ok (.ifCond .eq 16, 3) := by decide +kernel
theorem dX9_scanToken_39 : decode cX9_scanToken 39 = .ok (.aload_n 0, 1) := by decide +kernel
theorem dX9_scanToken_40 : decode cX9_scanToken 40 = .ok (.dup, 1) := by decide +kernel
theorem dX9_scanToken_41 : decode cX9_scanToken 41 = .ok (.getfield 32, 3) := by decide +kernel
theorem dX9_scanToken_44 : decode cX9_scanToken 44 = .ok (.iconst 1, 1) := by decide +kernel
theorem dX9_scanToken_45 : decode cX9_scanToken 45 = .ok (.iadd, 1) := by decide +kernel
theorem dX9_scanToken_46 : decode cX9_scanToken 46 = .ok (.putfield 32, 3) := by decide +kernel
theorem dX9_scanToken_49 : decode cX9_scanToken 49 = .ok (.goto (-35), 3) := by decide +kernel
theorem dX9_scanToken_52 : decode cX9_scanToken 52 = .ok (.aload_n 0, 1) := by decide +kernel
theorem dX9_scanToken_53 : decode cX9_scanToken 53 = .ok (.getfield 15, 3) := by decide +kernel
theorem dX9_scanToken_56 : decode cX9_scanToken 56 = .ok (.iload_n 1, 1) := by decide +kernel
theorem dX9_scanToken_57 : decode cX9_scanToken 57 = .ok (.aload_n 0, 1) := by decide +kernel
theorem dX9_scanToken_58 : decode cX9_scanToken 58 = .ok (.getfield 32, 3) := by decide +kernel
theorem dX9_scanToken_61 : decode cX9_scanToken 61 = .ok (.iastore, 1) := by decide +kernel
theorem dX9_scanToken_62 : decode cX9_scanToken 62 = .ok (.aload_n 0, 1) := by decide +kernel
theorem dX9_scanToken_63 : decode cX9_scanToken 63 = .ok (.getfield 18, 3) := by decide +kernel
theorem dX9_scanToken_66 : decode cX9_scanToken 66 = .ok (.iload_n 1, 1) := by decide +kernel
theorem dX9_scanToken_67 : decode cX9_scanToken 67 = .ok (.iconst 0, 1) := by decide +kernel
theorem dX9_scanToken_68 : decode cX9_scanToken 68 = .ok (.iastore, 1) := by decide +kernel
theorem dX9_scanToken_69 : decode cX9_scanToken 69 = .ok (.aload_n 0, 1) := by decide +kernel
theorem dX9_scanToken_70 : decode cX9_scanToken 70 = .ok (.getfield 21, 3) := by decide +kernel
theorem dX9_scanToken_73 : decode cX9_scanToken 73 = .ok (.iload_n 1, 1) := by decide +kernel
theorem dX9_scanToken_74 : decode cX9_scanToken 74 = .ok (.lconst 0, 1) := by decide +kernel
theorem dX9_scanToken_75 : decode cX9_scanToken 75 = .ok (.lastore, 1) := by decide +kernel
theorem dX9_scanToken_76 : decode cX9_scanToken 76 = .ok (.aload_n 0, 1) := by decide +kernel
theorem dX9_scanToken_77 : decode cX9_scanToken 77 = .ok (.aload_n 0, 1) := by decide +kernel
theorem dX9_scanToken_78 : decode cX9_scanToken 78 = .ok (.getfield 32, 3) := by decide +kernel
theorem dX9_scanToken_81 : decode cX9_scanToken 81 = .ok (.invokevirtual 39, 3) := by decide +kernel
theorem dX9_scanToken_84 : decode cX9_scanToken 84 = .ok (.istore_n 2, 1) := by decide +kernel
theorem dX9_scanToken_85 : decode cX9_scanToken 85 = .ok (.iload_n 2, 1) := by decide +kernel
theorem dX9_scanToken_86 : decode cX9_scanToken 86 = .ok (.invokestatic 46, 3) := by decide +kernel
theorem dX9_scanToken_89 : decode cX9_scanToken 89 = .ok (.ifCond .eq 52, 3) := by decide +kernel
theorem dX9_scanToken_92 : decode cX9_scanToken 92 = .ok (.aload_n 0, 1) := by decide +kernel
theorem dX9_scanToken_93 : decode cX9_scanToken 93 = .ok (.getfield 21, 3) := by decide +kernel
theorem dX9_scanToken_96 : decode cX9_scanToken 96 = .ok (.iload_n 1, 1) := by decide +kernel
theorem dX9_scanToken_97 : decode cX9_scanToken 97 = .ok (.aload_n 0, 1) := by decide +kernel
theorem dX9_scanToken_98 : decode cX9_scanToken 98 = .ok (.invokevirtual 49, 3) := by decide +kernel
theorem dX9_scanToken_101 : decode cX9_scanToken 101 = .ok (.lastore, 1) := by decide +kernel
theorem dX9_scanToken_102 : decode cX9_scanToken 102 = .ok (.aload_n 0, 1) := by decide +kernel
theorem dX9_scanToken_103 : decode cX9_scanToken 103 = .ok (.getfield 11, 3) := by decide +kernel
theorem dX9_scanToken_106 : decode cX9_scanToken 106 = .ok (.iload_n 1, 1) := by decide +kernel
theorem dX9_scanToken_107 : decode cX9_scanToken 107 = .ok (.aload_n 0, 1) := by decide +kernel
theorem dX9_scanToken_108 : decode cX9_scanToken 108 = .ok (.getfield 32, 3) := by decide +kernel
theorem dX9_scanToken_111 : decode cX9_scanToken 111 = .ok (.aload_n 0, 1) := by decide +kernel
theorem dX9_scanToken_112 : decode cX9_scanToken 112 = .ok (.getfield 15, 3) := by decide +kernel
theorem dX9_scanToken_115 : decode cX9_scanToken 115 = .ok (.iload_n 1, 1) := by decide +kernel
theorem dX9_scanToken_116 : decode cX9_scanToken 116 = .ok (.iaload, 1) := by decide +kernel
theorem dX9_scanToken_117 : decode cX9_scanToken 117 = .ok (.isub, 1) := by decide +kernel
theorem dX9_scanToken_118 : decode cX9_scanToken 118 = .ok (.bipush 8, 2) := by decide +kernel
theorem dX9_scanToken_120 : decode cX9_scanToken 120 = .ok (.if_icmp .le 8, 3) := by decide +kernel
theorem dX9_scanToken_123 : decode cX9_scanToken 123 = .ok (.bipush 30, 2) := by decide +kernel
theorem dX9_scanToken_125 : decode cX9_scanToken 125 = .ok (.goto 12, 3) := by decide +kernel
theorem dX9_scanToken_128 : decode cX9_scanToken 128 = .ok (.aload_n 0, 1) := by decide +kernel
theorem dX9_scanToken_129 : decode cX9_scanToken 129 = .ok (.getfield 21, 3) := by decide +kernel
theorem dX9_scanToken_132 : decode cX9_scanToken 132 = .ok (.iload_n 1, 1) := by decide +kernel
theorem dX9_scanToken_133 : decode cX9_scanToken 133 = .ok (.laload, 1) := by decide +kernel
theorem dX9_scanToken_134 : decode cX9_scanToken 134 = .ok (.invokestatic 53, 3) := by decide +kernel
theorem dX9_scanToken_137 : decode cX9_scanToken 137 = .ok (.iastore, 1) := by decide +kernel
theorem dX9_scanToken_138 : decode cX9_scanToken 138 = .ok (.goto 96, 3) := by decide +kernel
theorem dX9_scanToken_141 : decode cX9_scanToken 141 = .ok (.iload_n 2, 1) := by decide +kernel
theorem dX9_scanToken_142 : decode cX9_scanToken 142 = .ok (.invokestatic 57, 3) := by decide +kernel
theorem dX9_scanToken_145 : decode cX9_scanToken 145 = .ok (.ifCond .eq 44, 3) := by decide +kernel
theorem dX9_scanToken_148 : decode cX9_scanToken 148 = .ok (.aload_n 0, 1) := by decide +kernel
theorem dX9_scanToken_149 : decode cX9_scanToken 149 = .ok (.getfield 18, 3) := by decide +kernel
theorem dX9_scanToken_152 : decode cX9_scanToken 152 = .ok (.iload_n 1, 1) := by decide +kernel
theorem dX9_scanToken_153 : decode cX9_scanToken 153 = .ok (.aload_n 0, 1) := by decide +kernel
theorem dX9_scanToken_154 : decode cX9_scanToken 154 = .ok (.invokevirtual 60, 3) := by decide +kernel
theorem dX9_scanToken_157 : decode cX9_scanToken 157 = .ok (.iastore, 1) := by decide +kernel
theorem dX9_scanToken_158 : decode cX9_scanToken 158 = .ok (.aload_n 0, 1) := by decide +kernel
theorem dX9_scanToken_159 : decode cX9_scanToken 159 = .ok (.getfield 11, 3) := by decide +kernel
theorem dX9_scanToken_162 : decode cX9_scanToken 162 = .ok (.iload_n 1, 1) := by decide +kernel
theorem dX9_scanToken_163 : decode cX9_scanToken 163 = .ok (.aload_n 0, 1) := by decide +kernel
theorem dX9_scanToken_164 : decode cX9_scanToken 164 = .ok (.getfield 32, 3) := by decide +kernel
theorem dX9_scanToken_167 : decode cX9_scanToken 167 = .ok (.aload_n 0, 1) := by decide +kernel
theorem dX9_scanToken_168 : decode cX9_scanToken 168 = .ok (.getfield 15, 3) := by decide +kernel
theorem dX9_scanToken_171 : decode cX9_scanToken 171 = .ok (.iload_n 1, 1) := by decide +kernel
theorem dX9_scanToken_172 : decode cX9_scanToken 172 = .ok (.iaload, 1) := by decide +kernel
theorem dX9_scanToken_173 : decode cX9_scanToken 173 = .ok (.isub, 1) := by decide +kernel
theorem dX9_scanToken_174 : decode cX9_scanToken 174 = .ok (.iconst 2, 1) := by decide +kernel
theorem dX9_scanToken_175 : decode cX9_scanToken 175 = .ok (.if_icmp .le 8, 3) := by decide +kernel
theorem dX9_scanToken_178 : decode cX9_scanToken 178 = .ok (.bipush 30, 2) := by decide +kernel
theorem dX9_scanToken_180 : decode cX9_scanToken 180 = .ok (.goto 5, 3) := by decide +kernel
theorem dX9_scanToken_183 : decode cX9_scanToken 183 = .ok (.bipush 27, 2) := by decide +kernel
theorem dX9_scanToken_185 : decode cX9_scanToken 185 = .ok (.iastore, 1) := by decide +kernel
theorem dX9_scanToken_186 : decode cX9_scanToken 186 = .ok (.goto 48, 3) := by decide +kernel
theorem dX9_scanToken_189 : decode cX9_scanToken 189 = .ok (.iload_n 2, 1) := by decide +kernel
theorem dX9_scanToken_190 : decode cX9_scanToken 190 = .ok (.bipush 59, 2) := by decide +kernel
theorem dX9_scanToken_192 : decode cX9_scanToken 192 = .ok (.if_icmp .ne 24, 3) := by decide +kernel
theorem dX9_scanToken_195 : decode cX9_scanToken 195 = .ok (.aload_n 0, 1) := by decide +kernel
theorem dX9_scanToken_196 : decode cX9_scanToken 196 = .ok (.getfield 11, 3) := by decide +kernel
theorem dX9_scanToken_199 : decode cX9_scanToken 199 = .ok (.iload_n 1, 1) := by decide +kernel
theorem dX9_scanToken_200 : decode cX9_scanToken 200 = .ok (.bipush 28, 2) := by decide +kernel
theorem dX9_scanToken_202 : decode cX9_scanToken 202 = .ok (.iastore, 1) := by decide +kernel
theorem dX9_scanToken_203 : decode cX9_scanToken 203 = .ok (.aload_n 0, 1) := by decide +kernel
theorem dX9_scanToken_204 : decode cX9_scanToken 204 = .ok (.dup, 1) := by decide +kernel
theorem dX9_scanToken_205 : decode cX9_scanToken 205 = .ok (.getfield 32, 3) := by decide +kernel
theorem dX9_scanToken_208 : decode cX9_scanToken 208 = .ok (.iconst 1, 1) := by decide +kernel
theorem dX9_scanToken_209 : decode cX9_scanToken 209 = .ok (.iadd, 1) := by decide +kernel
theorem dX9_scanToken_210 : decode cX9_scanToken 210 = .ok (.putfield 32, 3) := by decide +kernel
theorem dX9_scanToken_213 : decode cX9_scanToken 213 = .ok (.goto 21, 3) := by decide +kernel
theorem dX9_scanToken_216 : decode cX9_scanToken 216 = .ok (.aload_n 0, 1) := by decide +kernel
theorem dX9_scanToken_217 : decode cX9_scanToken 217 = .ok (.getfield 11, 3) := by decide +kernel
theorem dX9_scanToken_220 : decode cX9_scanToken 220 = .ok (.iload_n 1, 1) := by decide +kernel
theorem dX9_scanToken_221 : decode cX9_scanToken 221 = .ok (.iload_n 2, 1) := by decide +kernel
theorem dX9_scanToken_222 : decode cX9_scanToken 222 = .ok (.iconst (-1), 1) := by decide +kernel
theorem dX9_scanToken_223 : decode cX9_scanToken 223 = .ok (.if_icmp .ne 8, 3) := by decide +kernel
theorem dX9_scanToken_226 : decode cX9_scanToken 226 = .ok (.bipush 29, 2) := by decide +kernel
theorem dX9_scanToken_228 : decode cX9_scanToken 228 = .ok (.goto 5, 3) := by decide +kernel
theorem dX9_scanToken_231 : decode cX9_scanToken 231 = .ok (.bipush 30, 2) := by decide +kernel
theorem dX9_scanToken_233 : decode cX9_scanToken 233 = .ok (.iastore, 1) := by decide +kernel
theorem dX9_scanToken_234 : decode cX9_scanToken 234 = .ok (.aload_n 0, 1) := by decide +kernel
theorem dX9_scanToken_235 : decode cX9_scanToken 235 = .ok (.getfield 11, 3) := by decide +kernel
theorem dX9_scanToken_238 : decode cX9_scanToken 238 = .ok (.iload_n 1, 1) := by decide +kernel
theorem dX9_scanToken_239 : decode cX9_scanToken 239 = .ok (.iaload, 1) := by decide +kernel
theorem dX9_scanToken_240 : decode cX9_scanToken 240 = .ok (.ireturn, 1) := by decide +kernel
abbrev rm_X9_scanToken : Room := { frames := 5, cells := 0, slots := 0, locals := 111 }
set_option maxRecDepth 100000 in
set_option maxHeartbeats 4000000 in
theorem ct_X9_scanToken {w : Wd} {l : Launch} {a1 : Int} {σ : St} {y : Int} {σ' : St} (ia1 : InI a1) (h : m_X9_scanToken a1 σ = some (y, σ')) : Ct w l yX9_scanToken (Cond.code yX9_scanToken cX9_scanToken 3 (some .int) :: TB) rm_X9_scanToken [rv w 16, iv a1] σ (some (iv y)) (InI y) σ' := by
  refine Ct.of2 [some (rv w 16), some (iv a1), none] 1 rfl pn_RX9 (Nat.le_of_ble_eq_true rfl) ?_
  intro p e s m args below meth c C hr hlk
  unfold m_X9_scanToken at h
  refine g_iload_n C dX9_scanToken_0 rfl ?_
  refine g_if_lt C dX9_scanToken_1 ia1 rfl (tgt := 11) (fun c1 => ?_) (fun c1 => ?_)
  · have h := ifT c1 h
    refine g_bipush C dX9_scanToken_11 rfl ?_
    exact g_iretP C dX9_scanToken_13 hr hlk h (by decide)
  · have h := ifF c1 h
    refine g_iload_n C dX9_scanToken_4 rfl ?_
    refine g_sipush C dX9_scanToken_5 rfl ?_
    refine g_icmp_lt C dX9_scanToken_8 ia1 (by decide) rfl (tgt := 14) (fun c2 => ?_) (fun c2 => ?_)
    · have h := ifT c2 h
      obtain ⟨b3, hb3, hF3⟩ := bnd h
      have hX3 : ∀ (σ14 : St) , σ14 = b3 → GM w p l e rm_X9_scanToken s m args below meth c (some (iv y)) (InI y) σ' 3 52 [some (rv w 16), some (iv a1), none] [] σ14 := by
        intro σ14 q
        subst q
        have h := hF3
        refine g_aload_n C dX9_scanToken_52 rfl ?_
        refine g_getR (j := 2) C dX9_scanToken_53 rfl (Nat.le_of_ble_eq_true rfl) (Nat.le_of_ble_eq_true rfl) fl_9_15 rfl rfl (r := 18) rfl ?_
        refine g_iload_n C dX9_scanToken_56 rfl ?_
        refine g_aload_n C dX9_scanToken_57 rfl ?_
        refine g_getI (j := 6) C dX9_scanToken_58 rfl (Nat.le_of_ble_eq_true rfl) (Nat.le_of_ble_eq_true rfl) fl_9_32 rfl rfl (fun i15 => ?_)
        obtain ⟨σ16, qσ16, h⟩ := bnd h
        refine g_iast C dX9_scanToken_61 rfl rfl qσ16 ia1 i15 ?_
        refine g_aload_n C dX9_scanToken_62 rfl ?_
        refine g_getR (j := 3) C dX9_scanToken_63 rfl (Nat.le_of_ble_eq_true rfl) (Nat.le_of_ble_eq_true rfl) fl_9_18 rfl rfl (r := 19) rfl ?_
        refine g_iload_n C dX9_scanToken_66 rfl ?_
        refine g_iconst C dX9_scanToken_67 ?_
        obtain ⟨σ17, qσ17, h⟩ := bnd h
        refine g_iast C dX9_scanToken_68 rfl rfl qσ17 ia1 (by decide) ?_
        refine g_aload_n C dX9_scanToken_69 rfl ?_
        refine g_getR (j := 4) C dX9_scanToken_70 rfl (Nat.le_of_ble_eq_true rfl) (Nat.le_of_ble_eq_true rfl) fl_9_21 rfl rfl (r := 20) rfl ?_
        refine g_iload_n C dX9_scanToken_73 rfl ?_
        refine g_lconst0 C dX9_scanToken_74 ?_
        obtain ⟨σ18, qσ18, h⟩ := bnd h
        refine g_last C dX9_scanToken_75 rfl rfl qσ18 ia1 (by decide) ?_
        refine g_aload_n C dX9_scanToken_76 rfl ?_
        refine g_aload_n C dX9_scanToken_77 rfl ?_
        refine g_getI (j := 6) C dX9_scanToken_78 rfl (Nat.le_of_ble_eq_true rfl) (Nat.le_of_ble_eq_true rfl) fl_9_32 rfl rfl (fun i19 => ?_)
        obtain ⟨x20, qx20, h⟩ := bnd h
        refine g_callV1 (As := [iv (σ18 16 6)]) C dX9_scanToken_81 mi_X9_byteAt ml_9_39 (ct_X9_byteAt i19 qx20) rfl rfl ⟨rfl, rfl⟩ ⟨Nat.le_of_ble_eq_true rfl, Nat.le_of_ble_eq_true rfl⟩ ⟨Nat.zero_le _, Nat.zero_le _⟩ rfl (Nat.le_of_ble_eq_true rfl) (fun ix20 => ?_)
        refine g_istore_n (L1 := [some (rv w 16), some (iv a1), some (iv x20)]) C dX9_scanToken_84 rfl (Nat.le_of_ble_eq_true rfl) rfl ?_
        refine g_iload_n C dX9_scanToken_85 rfl ?_
        obtain ⟨x21, qx21, h⟩ := bnd h
        refine g_callS1 (As := [iv x20]) C dX9_scanToken_86 mi_X9_isLetter ml_9_46 (ct_X9_isLetter ix20 qx21) rfl ⟨rfl, rfl⟩ ⟨Nat.le_of_ble_eq_true rfl, Nat.le_of_ble_eq_true rfl⟩ ⟨Nat.zero_le _, Nat.zero_le _⟩ rfl (Nat.le_of_ble_eq_true rfl) (fun ix21 => ?_)
        have hJ234_52 : ∀ (σ50 : St) , m_X9_scanToken_J234 a1 σ50 = some (y, σ') → GM w p l e rm_X9_scanToken s m args below meth c (some (iv y)) (InI y) σ' 3 234 [some (rv w 16), some (iv a1), none] [] σ50 := by
          intro σ50 h
          unfold m_X9_scanToken_J234 at h
          refine g_aload_n C dX9_scanToken_234 rfl ?_
          refine g_getR (j := 1) C dX9_scanToken_235 rfl (Nat.le_of_ble_eq_true rfl) (Nat.le_of_ble_eq_true rfl) fl_9_11 rfl rfl (r := 17) rfl ?_
          refine g_iload_n C dX9_scanToken_238 rfl ?_
          obtain ⟨x51, qx51, h⟩ := bnd h
          refine g_iald C dX9_scanToken_239 rfl rfl qx51 ia1 (fun ix51 => ?_)
          exact g_iretP C dX9_scanToken_240 hr hlk h ix51
        refine g_if_eq C dX9_scanToken_89 (zI ix21) rfl (tgt := 141) (fun c22 => ?_) (fun c22 => ?_)
        · have h := ifT c22 h
          refine g_iload_n C dX9_scanToken_141 rfl ?_
          obtain ⟨x23, qx23, h⟩ := bnd h
          refine g_callS1 (As := [iv x20]) C dX9_scanToken_142 mi_X9_isDigit ml_9_57 (ct_X9_isDigit ix20 qx23) rfl ⟨rfl, rfl⟩ ⟨Nat.le_of_ble_eq_true rfl, Nat.le_of_ble_eq_true rfl⟩ ⟨Nat.zero_le _, Nat.zero_le _⟩ rfl (Nat.le_of_ble_eq_true rfl) (fun ix23 => ?_)
          refine g_if_eq C dX9_scanToken_145 (zI ix23) rfl (tgt := 189) (fun c24 => ?_) (fun c24 => ?_)
          · have h := ifT c24 h
            refine g_iload_n C dX9_scanToken_189 rfl ?_
            refine g_bipush C dX9_scanToken_190 rfl ?_
            refine g_icmp_ne C dX9_scanToken_192 ix20 (by decide) rfl (tgt := 216) (fun c25 => ?_) (fun c25 => ?_)
            · have h := ifF c25 h
              refine g_aload_n C dX9_scanToken_216 rfl ?_
              refine g_getR (j := 1) C dX9_scanToken_217 rfl (Nat.le_of_ble_eq_true rfl) (Nat.le_of_ble_eq_true rfl) fl_9_11 rfl rfl (r := 17) rfl ?_
              refine g_iload_n C dX9_scanToken_220 rfl ?_
              refine g_iload_n C dX9_scanToken_221 rfl ?_
              refine g_iconst C dX9_scanToken_222 ?_
              refine g_icmp_ne C dX9_scanToken_223 ix20 (by decide) rfl (tgt := 231) (fun c26 => ?_) (fun c26 => ?_)
              · have h := ifF c26 h
                refine g_bipush C dX9_scanToken_231 rfl ?_
                obtain ⟨σ27, qσ27, h⟩ := bnd h
                refine g_iast C dX9_scanToken_233 rfl rfl qσ27 ia1 (by decide) ?_
                refine g_mask [true, true, false] ?_
                exact hJ234_52 σ27 h
              · have h := ifT c26 h
                refine g_bipush C dX9_scanToken_226 rfl ?_
                refine g_goto C dX9_scanToken_228 rfl (tgt := 233) ?_
                obtain ⟨σ28, qσ28, h⟩ := bnd h
                refine g_iast C dX9_scanToken_233 rfl rfl qσ28 ia1 (by decide) ?_
                refine g_mask [true, true, false] ?_
                exact hJ234_52 σ28 h
            · have h := ifT c25 h
              refine g_aload_n C dX9_scanToken_195 rfl ?_
              refine g_getR (j := 1) C dX9_scanToken_196 rfl (Nat.le_of_ble_eq_true rfl) (Nat.le_of_ble_eq_true rfl) fl_9_11 rfl rfl (r := 17) rfl ?_
              refine g_iload_n C dX9_scanToken_199 rfl ?_
              refine g_bipush C dX9_scanToken_200 rfl ?_
              obtain ⟨σ29, qσ29, h⟩ := bnd h
              refine g_iast C dX9_scanToken_202 rfl rfl qσ29 ia1 (by decide) ?_
              refine g_aload_n C dX9_scanToken_203 rfl ?_
              refine g_dup C dX9_scanToken_204 rfl ?_
              refine g_getI (j := 6) C dX9_scanToken_205 rfl (Nat.le_of_ble_eq_true rfl) (Nat.le_of_ble_eq_true rfl) fl_9_32 rfl rfl (fun i30 => ?_)
              refine g_iconst C dX9_scanToken_208 ?_
              refine g_iadd C dX9_scanToken_209 ?_
              obtain ⟨σ31, qσ31, h⟩ := bnd h
              refine g_putI (j := 6) C dX9_scanToken_210 rfl (Nat.le_of_ble_eq_true rfl) (Nat.le_of_ble_eq_true rfl) fl_9_32 rfl rfl rfl rfl qσ31 (iwr _) ?_
              refine g_goto C dX9_scanToken_213 rfl (tgt := 234) ?_
              refine g_mask [true, true, false] ?_
              exact hJ234_52 σ31 h
          · have h := ifF c24 h
            refine g_aload_n C dX9_scanToken_148 rfl ?_
            refine g_getR (j := 3) C dX9_scanToken_149 rfl (Nat.le_of_ble_eq_true rfl) (Nat.le_of_ble_eq_true rfl) fl_9_18 rfl rfl (r := 19) rfl ?_
            refine g_iload_n C dX9_scanToken_152 rfl ?_
            refine g_aload_n C dX9_scanToken_153 rfl ?_
            obtain ⟨⟨x32, σ33⟩, qx32, h⟩ := bnd h
            refine g_callV1 (As := []) C dX9_scanToken_154 mi_X9_scanDigits ml_9_60 (ct_X9_scanDigits qx32) rfl rfl ⟨rfl, rfl⟩ ⟨Nat.le_of_ble_eq_true rfl, Nat.le_of_ble_eq_true rfl⟩ ⟨Nat.zero_le _, Nat.zero_le _⟩ rfl (Nat.le_of_ble_eq_true rfl) (fun ix32 => ?_)
            obtain ⟨σ34, qσ34, h⟩ := bnd h
            refine g_iast C dX9_scanToken_157 rfl rfl qσ34 ia1 ix32 ?_
            refine g_aload_n C dX9_scanToken_158 rfl ?_
            refine g_getR (j := 1) C dX9_scanToken_159 rfl (Nat.le_of_ble_eq_true rfl) (Nat.le_of_ble_eq_true rfl) fl_9_11 rfl rfl (r := 17) rfl ?_
            refine g_iload_n C dX9_scanToken_162 rfl ?_
            refine g_aload_n C dX9_scanToken_163 rfl ?_
            refine g_getI (j := 6) C dX9_scanToken_164 rfl (Nat.le_of_ble_eq_true rfl) (Nat.le_of_ble_eq_true rfl) fl_9_32 rfl rfl (fun i35 => ?_)
            refine g_aload_n C dX9_scanToken_167 rfl ?_
            refine g_getR (j := 2) C dX9_scanToken_168 rfl (Nat.le_of_ble_eq_true rfl) (Nat.le_of_ble_eq_true rfl) fl_9_15 rfl rfl (r := 18) rfl ?_
            refine g_iload_n C dX9_scanToken_171 rfl ?_
            obtain ⟨x36, qx36, h⟩ := bnd h
            refine g_iald C dX9_scanToken_172 rfl rfl qx36 ia1 (fun ix36 => ?_)
            refine g_isub C dX9_scanToken_173 ?_
            refine g_iconst C dX9_scanToken_174 ?_
            refine g_icmp_le C dX9_scanToken_175 (iwr _) (by decide) rfl (tgt := 183) (fun c37 => ?_) (fun c37 => ?_)
            · have h := ifT c37 h
              refine g_bipush C dX9_scanToken_183 rfl ?_
              obtain ⟨σ38, qσ38, h⟩ := bnd h
              refine g_iast C dX9_scanToken_185 rfl rfl qσ38 ia1 (by decide) ?_
              refine g_goto C dX9_scanToken_186 rfl (tgt := 234) ?_
              refine g_mask [true, true, false] ?_
              exact hJ234_52 σ38 h
            · have h := ifF c37 h
              refine g_bipush C dX9_scanToken_178 rfl ?_
              refine g_goto C dX9_scanToken_180 rfl (tgt := 185) ?_
              obtain ⟨σ39, qσ39, h⟩ := bnd h
              refine g_iast C dX9_scanToken_185 rfl rfl qσ39 ia1 (by decide) ?_
              refine g_goto C dX9_scanToken_186 rfl (tgt := 234) ?_
              refine g_mask [true, true, false] ?_
              exact hJ234_52 σ39 h
        · have h := ifF c22 h
          refine g_aload_n C dX9_scanToken_92 rfl ?_
          refine g_getR (j := 4) C dX9_scanToken_93 rfl (Nat.le_of_ble_eq_true rfl) (Nat.le_of_ble_eq_true rfl) fl_9_21 rfl rfl (r := 20) rfl ?_
          refine g_iload_n C dX9_scanToken_96 rfl ?_
          refine g_aload_n C dX9_scanToken_97 rfl ?_
          obtain ⟨⟨x40, σ41⟩, qx40, h⟩ := bnd h
          refine g_callV1 (As := []) C dX9_scanToken_98 mi_X9_scanLetters ml_9_49 (ct_X9_scanLetters qx40) rfl rfl ⟨rfl, rfl⟩ ⟨Nat.le_of_ble_eq_true rfl, Nat.le_of_ble_eq_true rfl⟩ ⟨Nat.zero_le _, Nat.zero_le _⟩ rfl (Nat.le_of_ble_eq_true rfl) (fun ix40 => ?_)
          obtain ⟨σ42, qσ42, h⟩ := bnd h
          refine g_last C dX9_scanToken_101 rfl rfl qσ42 ia1 ix40 ?_
          refine g_aload_n C dX9_scanToken_102 rfl ?_
          refine g_getR (j := 1) C dX9_scanToken_103 rfl (Nat.le_of_ble_eq_true rfl) (Nat.le_of_ble_eq_true rfl) fl_9_11 rfl rfl (r := 17) rfl ?_
          refine g_iload_n C dX9_scanToken_106 rfl ?_
          refine g_aload_n C dX9_scanToken_107 rfl ?_
          refine g_getI (j := 6) C dX9_scanToken_108 rfl (Nat.le_of_ble_eq_true rfl) (Nat.le_of_ble_eq_true rfl) fl_9_32 rfl rfl (fun i43 => ?_)
          refine g_aload_n C dX9_scanToken_111 rfl ?_
          refine g_getR (j := 2) C dX9_scanToken_112 rfl (Nat.le_of_ble_eq_true rfl) (Nat.le_of_ble_eq_true rfl) fl_9_15 rfl rfl (r := 18) rfl ?_
          refine g_iload_n C dX9_scanToken_115 rfl ?_
          obtain ⟨x44, qx44, h⟩ := bnd h
          refine g_iald C dX9_scanToken_116 rfl rfl qx44 ia1 (fun ix44 => ?_)
          refine g_isub C dX9_scanToken_117 ?_
          refine g_bipush C dX9_scanToken_118 rfl ?_
          refine g_icmp_le C dX9_scanToken_120 (iwr _) (by decide) rfl (tgt := 128) (fun c45 => ?_) (fun c45 => ?_)
          · have h := ifT c45 h
            refine g_aload_n C dX9_scanToken_128 rfl ?_
            refine g_getR (j := 4) C dX9_scanToken_129 rfl (Nat.le_of_ble_eq_true rfl) (Nat.le_of_ble_eq_true rfl) fl_9_21 rfl rfl (r := 20) rfl ?_
            refine g_iload_n C dX9_scanToken_132 rfl ?_
            obtain ⟨x46, qx46, h⟩ := bnd h
            refine g_lald C dX9_scanToken_133 rfl rfl qx46 ia1 (fun ix46 => ?_)
            obtain ⟨x47, qx47, h⟩ := bnd h
            refine g_callS1 (As := [jv x46]) C dX9_scanToken_134 mi_X9_wordOf ml_9_53 (ct_X9_wordOf ix46 qx47) rfl ⟨rfl, rfl⟩ ⟨Nat.le_of_ble_eq_true rfl, Nat.le_of_ble_eq_true rfl⟩ ⟨Nat.zero_le _, Nat.zero_le _⟩ rfl (Nat.le_of_ble_eq_true rfl) (fun ix47 => ?_)
            obtain ⟨σ48, qσ48, h⟩ := bnd h
            refine g_iast C dX9_scanToken_137 rfl rfl qσ48 ia1 ix47 ?_
            refine g_goto C dX9_scanToken_138 rfl (tgt := 234) ?_
            refine g_mask [true, true, false] ?_
            exact hJ234_52 σ48 h
          · have h := ifF c45 h
            refine g_bipush C dX9_scanToken_123 rfl ?_
            refine g_goto C dX9_scanToken_125 rfl (tgt := 137) ?_
            obtain ⟨σ49, qσ49, h⟩ := bnd h
            refine g_iast C dX9_scanToken_137 rfl rfl qσ49 ia1 (by decide) ?_
            refine g_goto C dX9_scanToken_138 rfl (tgt := 234) ?_
            refine g_mask [true, true, false] ?_
            exact hJ234_52 σ49 h
      have hL3 : ∀ (n : Nat) (σ4 : St) , lpN (fun a => m_X9_scanToken_L14 a) n σ4 = some b3 → GM w p l e rm_X9_scanToken s m args below meth c (some (iv y)) (InI y) σ' 3 14 [some (rv w 16), some (iv a1), none] [] σ4 := by
        intro n
        induction n with
        | zero => intro σ4 q; cases q
        | succ n ih3 =>
          intro σ4 q
          obtain ⟨o3, h, hk3⟩ := lp_step q
          replace h : m_X9_scanToken_L14 σ4 = some o3 := h
          unfold m_X9_scanToken_L14 at h
          refine g_aload_n C dX9_scanToken_14 rfl ?_
          refine g_getI (j := 6) C dX9_scanToken_15 rfl (Nat.le_of_ble_eq_true rfl) (Nat.le_of_ble_eq_true rfl) fl_9_32 rfl rfl (fun i5 => ?_)
          refine g_aload_n C dX9_scanToken_18 rfl ?_
          refine g_getI (j := 0) C dX9_scanToken_19 rfl (Nat.le_of_ble_eq_true rfl) (Nat.le_of_ble_eq_true rfl) fl_9_28 rfl rfl (fun i6 => ?_)
          refine g_icmp_ge C dX9_scanToken_22 i5 i6 rfl (tgt := 52) (fun c7 => ?_) (fun c7 => ?_)
          · have h := ifT c7 h
            obtain rfl := Option.some.inj h
            exact hX3 σ4 (lpR hk3).symm
          · have h := ifF c7 h
            refine g_aload_n C dX9_scanToken_25 rfl ?_
            refine g_aload_n C dX9_scanToken_26 rfl ?_
            refine g_getI (j := 6) C dX9_scanToken_27 rfl (Nat.le_of_ble_eq_true rfl) (Nat.le_of_ble_eq_true rfl) fl_9_32 rfl rfl (fun i8 => ?_)
            obtain ⟨x9, qx9, h⟩ := bnd h
            refine g_callV1 (As := [iv (σ4 16 6)]) C dX9_scanToken_30 mi_X9_byteAt ml_9_39 (ct_X9_byteAt i8 qx9) rfl rfl ⟨rfl, rfl⟩ ⟨Nat.le_of_ble_eq_true rfl, Nat.le_of_ble_eq_true rfl⟩ ⟨Nat.zero_le _, Nat.zero_le _⟩ rfl (Nat.le_of_ble_eq_true rfl) (fun ix9 => ?_)
            obtain ⟨x10, qx10, h⟩ := bnd h
            refine g_callS1 (As := [iv x9]) C dX9_scanToken_33 mi_X9_isBlank ml_9_42 (ct_X9_isBlank ix9 qx10) rfl ⟨rfl, rfl⟩ ⟨Nat.le_of_ble_eq_true rfl, Nat.le_of_ble_eq_true rfl⟩ ⟨Nat.zero_le _, Nat.zero_le _⟩ rfl (Nat.le_of_ble_eq_true rfl) (fun ix10 => ?_)
            refine g_if_eq C dX9_scanToken_36 (zI ix10) rfl (tgt := 52) (fun c11 => ?_) (fun c11 => ?_)
            · have h := ifT c11 h
              obtain rfl := Option.some.inj h
              exact hX3 σ4 (lpR hk3).symm
            · have h := ifF c11 h
              refine g_aload_n C dX9_scanToken_39 rfl ?_
              refine g_dup C dX9_scanToken_40 rfl ?_
              refine g_getI (j := 6) C dX9_scanToken_41 rfl (Nat.le_of_ble_eq_true rfl) (Nat.le_of_ble_eq_true rfl) fl_9_32 rfl rfl (fun i12 => ?_)
              refine g_iconst C dX9_scanToken_44 ?_
              refine g_iadd C dX9_scanToken_45 ?_
              obtain ⟨σ13, qσ13, h⟩ := bnd h
              refine g_putI (j := 6) C dX9_scanToken_46 rfl (Nat.le_of_ble_eq_true rfl) (Nat.le_of_ble_eq_true rfl) fl_9_32 rfl rfl rfl rfl qσ13 (iwr _) ?_
              refine g_goto C dX9_scanToken_49 rfl (tgt := 14) ?_
              obtain rfl := Option.some.inj h
              exact ih3 _ (lpL hk3)
      exact hL3 FU _ hb3
    · have h := ifF c2 h
      refine g_bipush C dX9_scanToken_11 rfl ?_
      exact g_iretP C dX9_scanToken_13 hr hlk h (by decide)
theorem dX9_scan_0 : decode cX9_scan 0 = .ok (.aload_n 0, 1) := by decide +kernel
theorem dX9_scan_1 : decode cX9_scan 1 = .ok (.iconst 0, 1) := by decide +kernel
theorem dX9_scan_2 : decode cX9_scan 2 = .ok (.putfield 32, 3) := by decide +kernel
theorem dX9_scan_5 : decode cX9_scan 5 = .ok (.bipush 27, 2) := by decide +kernel
theorem dX9_scan_7 : decode cX9_scan 7 = .ok (.istore_n 1, 1) := by decide +kernel
theorem dX9_scan_8 : decode cX9_scan 8 = .ok (.iconst 0, 1) := by decide +kernel
theorem dX9_scan_9 : decode cX9_scan 9 = .ok (.istore_n 2, 1) := by decide +kernel
theorem dX9_scan_10 : decode cX9_scan 10 = .ok (.iload_n 2, 1) := by decide +kernel
theorem dX9_scan_11 : decode cX9_scan 11 = .ok (.sipush 502, 3) := by decide +kernel
theorem dX9_scan_14 : decode cX9_scan 14 = .ok (.if_icmp .ge 27, 3) := by decide +kernel
theorem dX9_scan_17 : decode cX9_scan 17 = .ok (.iload_n 1, 1) := by decide +kernel
theorem dX9_scan_18 : decode cX9_scan 18 = .ok (.bipush 29, 2) := by decide +kernel
theorem dX9_scan_20 : decode cX9_scan 20 = .ok (.if_icmp .eq 21, 3) := by decide +kernel
theorem dX9_scan_23 : decode cX9_scan 23 = .ok (.iload_n 1, 1) := by decide +kernel
theorem dX9_scan_24 : decode cX9_scan 24 = .ok (.bipush 30, 2) := by decide +kernel
theorem dX9_scan_26 : decode cX9_scan 26 = .ok (.if_icmp .eq 15, 3) := by decide +kernel
theorem dX9_scan_29 : decode cX9_scan 29 = .ok (.aload_n 0, 1) := by decide +kernel
theorem dX9_scan_30 : decode cX9_scan 30 = .ok (.iload_n 2, 1) := by decide +kernel
theorem dX9_scan_31 : decode cX9_scan 31 = .ok (.invokevirtual 35, 3) := by decide +kernel
theorem dX9_scan_34 : decode cX9_scan 34 = .ok (.istore_n 1, 1) := by decide +kernel
theorem dX9_scan_35 : decode cX9_scan 35 = .ok (.iinc 2 1, 3) := by decide +kernel
theorem dX9_scan_38 : decode cX9_scan 38 = .ok (.goto (-28), 3) := by decide +kernel
theorem dX9_scan_41 : decode cX9_scan 41 = .ok (.return_, 1) := by decide +kernel
abbrev rm_X9_scan : Room := { frames := 6, cells := 0, slots := 0, locals := 133 }
set_option maxRecDepth 100000 in
set_option maxHeartbeats 4000000 in
theorem ct_X9_scan {w : Wd} {l : Launch} {σ : St} {σ' : St} (h : m_X9_scan σ = some σ') : Ct w l yX9_scan (Cond.code yX9_scan cX9_scan 3 none :: TB) rm_X9_scan [rv w 16] σ none True σ' := by
  refine Ct.of2 [some (rv w 16), none, none] 2 rfl pn_RX9 (Nat.le_of_ble_eq_true rfl) ?_
  intro p e s m args below meth c C hr hlk
  unfold m_X9_scan at h
  refine g_aload_n C dX9_scan_0 rfl ?_
  refine g_iconst C dX9_scan_1 ?_
  obtain ⟨σ1, qσ1, h⟩ := bnd h
  refine g_putI (j := 6) C dX9_scan_2 rfl (Nat.le_of_ble_eq_true rfl) (Nat.le_of_ble_eq_true rfl) fl_9_32 rfl rfl rfl rfl qσ1 (by decide) ?_
  refine g_bipush C dX9_scan_5 rfl ?_
  refine g_istore_n (L1 := [some (rv w 16), some (iv 27), none]) C dX9_scan_7 rfl (Nat.le_of_ble_eq_true rfl) rfl ?_
  refine g_iconst C dX9_scan_8 ?_
  refine g_istore_n (L1 := [some (rv w 16), some (iv 27), some (iv 0)]) C dX9_scan_9 rfl (Nat.le_of_ble_eq_true rfl) rfl ?_
  obtain ⟨b2, hb2, hF2⟩ := bnd h
  have hX2 : ∀ (σ11 : St) , σ11 = b2 → GM w p l e rm_X9_scan s m args below meth c none True σ' 3 41 [none, none, none] [] σ11 := by
    intro σ11 q
    subst q
    have h := hF2
    exact g_vretP C dX9_scan_41 hr hlk h
  have hL2 : ∀ (n : Nat) (x3 : Int) (x4 : Int) (σ5 : St) , InI x3 → InI x4 → lpN (fun a => m_X9_scan_L10 a.1 a.2.1 a.2.2) n (x3, x4, σ5) = some b2 → GM w p l e rm_X9_scan s m args below meth c none True σ' 3 10 [some (rv w 16), some (iv x3), some (iv x4)] [] σ5 := by
    intro n
    induction n with
    | zero => intro x3 x4 σ5 ix3 ix4 q; cases q
    | succ n ih2 =>
      intro x3 x4 σ5 ix3 ix4 q
      obtain ⟨o2, h, hk2⟩ := lp_step q
      replace h : m_X9_scan_L10 x3 x4 σ5 = some o2 := h
      unfold m_X9_scan_L10 at h
      refine g_iload_n C dX9_scan_10 rfl ?_
      refine g_sipush C dX9_scan_11 rfl ?_
      refine g_icmp_ge C dX9_scan_14 ix4 (by decide) rfl (tgt := 41) (fun c6 => ?_) (fun c6 => ?_)
      · have h := ifT c6 h
        refine g_mask [false, false, false] ?_
        obtain rfl := Option.some.inj h
        exact hX2 σ5 (lpR hk2).symm
      · have h := ifF c6 h
        refine g_iload_n C dX9_scan_17 rfl ?_
        refine g_bipush C dX9_scan_18 rfl ?_
        refine g_icmp_eq C dX9_scan_20 ix3 (by decide) rfl (tgt := 41) (fun c7 => ?_) (fun c7 => ?_)
        · have h := ifT c7 h
          refine g_mask [false, false, false] ?_
          obtain rfl := Option.some.inj h
          exact hX2 σ5 (lpR hk2).symm
        · have h := ifF c7 h
          refine g_iload_n C dX9_scan_23 rfl ?_
          refine g_bipush C dX9_scan_24 rfl ?_
          refine g_icmp_eq C dX9_scan_26 ix3 (by decide) rfl (tgt := 41) (fun c8 => ?_) (fun c8 => ?_)
          · have h := ifT c8 h
            refine g_mask [false, false, false] ?_
            obtain rfl := Option.some.inj h
            exact hX2 σ5 (lpR hk2).symm
          · have h := ifF c8 h
            refine g_aload_n C dX9_scan_29 rfl ?_
            refine g_iload_n C dX9_scan_30 rfl ?_
            obtain ⟨⟨x9, σ10⟩, qx9, h⟩ := bnd h
            refine g_callV1 (As := [iv x4]) C dX9_scan_31 mi_X9_scanToken ml_9_35 (ct_X9_scanToken ix4 qx9) rfl rfl ⟨rfl, rfl⟩ ⟨Nat.le_of_ble_eq_true rfl, Nat.le_of_ble_eq_true rfl⟩ ⟨Nat.zero_le _, Nat.zero_le _⟩ rfl (Nat.le_of_ble_eq_true rfl) (fun ix9 => ?_)
            refine g_istore_n (L1 := [some (rv w 16), some (iv x9), some (iv x4)]) C dX9_scan_34 rfl (Nat.le_of_ble_eq_true rfl) rfl ?_
            refine g_iinc (L1 := [some (rv w 16), some (iv x9), some (iv (wr (x4 + 1)))]) C dX9_scan_35 rfl rfl (Nat.le_of_ble_eq_true rfl) rfl ?_
            refine g_goto C dX9_scan_38 rfl (tgt := 10) ?_
            obtain rfl := Option.some.inj h
            exact ih2 _ _ _ ix9 (iwr _) (lpL hk2)
  exact hL2 FU _ _ _ (by decide) (by decide) hb2
theorem dX5_add_0 : decode cX5_add 0 = .ok (.aload_n 0, 1) := by decide +kernel
theorem dX5_add_1 : decode cX5_add 1 = .ok (.getfield 35, 3) := by decide +kernel
theorem dX5_add_4 : decode cX5_add 4 = .ok (.sipush 512, 3) := by decide +kernel
theorem dX5_add_7 : decode cX5_add 7 = .ok (.if_icmp .lt 5, 3) := by decide +kernel
theorem dX5_add_10 : decode cX5_add 10 = .ok (.iconst (-1), 1) := by decide +kernel
theorem dX5_add_11 : decode cX5_add 11 = .ok (.ireturn, 1) := by decide +kernel
theorem dX5_add_12 : decode cX5_add 12 = .ok (.aload_n 0, 1) := by decide +kernel
theorem dX5_add_13 : decode cX5_add 13 = .ok (.getfield 11, 3) := by decide +kernel
theorem dX5_add_16 : decode cX5_add 16 = .ok (.aload_n 0, 1) := by decide +kernel
theorem dX5_add_17 : decode cX5_add 17 = .ok (.getfield 35, 3) := by decide +kernel
theorem dX5_add_20 : decode cX5_add 20 = .ok (.iload_n 1, 1) := by decide +kernel
theorem dX5_add_21 : decode cX5_add 21 = .ok (.iastore, 1) := by decide +kernel
theorem dX5_add_22 : decode cX5_add 22 = .ok (.aload_n 0, 1) := by decide +kernel
theorem dX5_add_23 : decode cX5_add 23 = .ok (.getfield 15, 3) := by decide +kernel
theorem dX5_add_26 : decode cX5_add 26 = .ok (.aload_n 0, 1) := by decide +kernel
theorem dX5_add_27 : decode cX5_add 27 = .ok (.getfield 35, 3) := by decide +kernel
theorem dX5_add_30 : decode cX5_add 30 = .ok (.iload_n 2, 1) := by decide +kernel
theorem dX5_add_31 : decode cX5_add 31 = .ok (.iastore, 1) := by decide +kernel
theorem dX5_add_32 : decode cX5_add 32 = .ok (.aload_n 0, 1) := by decide +kernel
theorem dX5_add_33 : decode cX5_add 33 = .ok (.getfield 18, 3) := by decide +kernel
theorem dX5_add_36 : decode cX5_add 36 = .ok (.aload_n 0, 1) := by decide +kernel
theorem dX5_add_37 : decode cX5_add 37 = .ok (.getfield 35, 3) := by decide +kernel
theorem dX5_add_40 : decode cX5_add 40 = .ok (.iload_n 3, 1) := by decide +kernel
theorem dX5_add_41 : decode cX5_add 41 = .ok (.iastore, 1) := by decide +kernel
theorem dX5_add_42 : decode cX5_add 42 = .ok (.aload_n 0, 1) := by decide +kernel
theorem dX5_add_43 : decode cX5_add 43 = .ok (.getfield 21, 3) := by decide +kernel
theorem dX5_add_46 : decode cX5_add 46 = .ok (.aload_n 0, 1) := by decide +kernel
theorem dX5_add_47 : decode cX5_add 47 = .ok (.getfield 35, 3) := by decide +kernel
theorem dX5_add_50 : decode cX5_add 50 = .ok (.iconst 1, 1) := by decide +kernel
theorem dX5_add_51 : decode cX5_add 51 = .ok (.bastore, 1) := by decide +kernel
theorem dX5_add_52 : decode cX5_add 52 = .ok (.aload_n 0, 1) := by decide +kernel
theorem dX5_add_53 : decode cX5_add 53 = .ok (.getfield 25, 3) := by decide +kernel
theorem dX5_add_56 : decode cX5_add 56 = .ok (.aload_n 0, 1) := by decide +kernel
theorem dX5_add_57 : decode cX5_add 57 = .ok (.getfield 35, 3) := by decide +kernel
theorem dX5_add_60 : decode cX5_add 60 = .ok (.iconst (-1), 1) := by decide +kernel
theorem dX5_add_61 : decode cX5_add 61 = .ok (.iastore, 1) := by decide +kernel
theorem dX5_add_62 : decode cX5_add 62 = .ok (.aload_n 0, 1) := by decide +kernel
theorem dX5_add_63 : decode cX5_add 63 = .ok (.dup, 1) := by decide +kernel
theorem dX5_add_64 : decode cX5_add 64 = .ok (.getfield 35, 3) := by decide +kernel
theorem dX5_add_67 : decode cX5_add 67 = .ok (.dup_x1, 1) := by decide +kernel
theorem dX5_add_68 : decode cX5_add 68 = .ok (.iconst 1, 1) := by decide +kernel
theorem dX5_add_69 : decode cX5_add 69 = .ok (.iadd, 1) := by decide +kernel
theorem dX5_add_70 : decode cX5_add 70 = .ok (.putfield 35, 3) := by decide +kernel
theorem dX5_add_73 : decode cX5_add 73 = .ok (.ireturn, 1) := by decide +kernel
abbrev rm_X5_add : Room := { frames := 0, cells := 0, slots := 0, locals := 0 }
set_option maxRecDepth 100000 in
set_option maxHeartbeats 4000000 in
theorem ct_X5_add {w : Wd} {l : Launch} {k0 : Nat} {a1 : Int} {a2 : Int} {a3 : Int} {σ : St} {y : Int} {σ' : St} (t0 : tg k0 = 5) (ia1 : InI a1) (ia2 : InI a2) (ia3 : InI a3) (h : m_X5_add k0 a1 a2 a3 σ = some (y, σ')) : Ct w l yX5_add (Cond.code yX5_add cX5_add 4 (some .int) :: TB) rm_X5_add [rv w k0, iv a1, iv a2, iv a3] σ (some (iv y)) (InI y) σ' := by
  refine Ct.of2 [some (rv w k0), some (iv a1), some (iv a2), some (iv a3)] 0 rfl pn_RX5 (Nat.le_of_ble_eq_true rfl) ?_
  intro p e s m args below meth c C hr hlk
  unfold m_X5_add at h
  refine g_aload_n C dX5_add_0 rfl ?_
  refine g_getI (j := 7) C dX5_add_1 t0 (Nat.le_of_ble_eq_true rfl) (Nat.le_of_ble_eq_true rfl) fl_5_35 rfl rfl (fun i1 => ?_)
  refine g_sipush C dX5_add_4 rfl ?_
  refine g_icmp_lt C dX5_add_7 i1 (by decide) rfl (tgt := 12) (fun c2 => ?_) (fun c2 => ?_)
  · have h := ifT c2 h
    refine g_aload_n C dX5_add_12 rfl ?_
    refine g_getR (j := 0) C dX5_add_13 t0 (Nat.le_of_ble_eq_true rfl) (Nat.le_of_ble_eq_true rfl) fl_5_11 rfl rfl (r := (k0 + 1)) (shR_5_0 t0) ?_
    refine g_aload_n C dX5_add_16 rfl ?_
    refine g_getI (j := 7) C dX5_add_17 t0 (Nat.le_of_ble_eq_true rfl) (Nat.le_of_ble_eq_true rfl) fl_5_35 rfl rfl (fun i3 => ?_)
    refine g_iload_n C dX5_add_20 rfl ?_
    obtain ⟨σ4, qσ4, h⟩ := bnd h
    refine g_iast C dX5_add_21 (shT_5_0 t0) (shL_5_0 t0) qσ4 i3 ia1 ?_
    refine g_aload_n C dX5_add_22 rfl ?_
    refine g_getR (j := 1) C dX5_add_23 t0 (Nat.le_of_ble_eq_true rfl) (Nat.le_of_ble_eq_true rfl) fl_5_15 rfl rfl (r := (k0 + 2)) (shR_5_1 t0) ?_
    refine g_aload_n C dX5_add_26 rfl ?_
    refine g_getI (j := 7) C dX5_add_27 t0 (Nat.le_of_ble_eq_true rfl) (Nat.le_of_ble_eq_true rfl) fl_5_35 rfl rfl (fun i5 => ?_)
    refine g_iload_n C dX5_add_30 rfl ?_
    obtain ⟨σ6, qσ6, h⟩ := bnd h
    refine g_iast C dX5_add_31 (shT_5_1 t0) (shL_5_1 t0) qσ6 i5 ia2 ?_
    refine g_aload_n C dX5_add_32 rfl ?_
    refine g_getR (j := 2) C dX5_add_33 t0 (Nat.le_of_ble_eq_true rfl) (Nat.le_of_ble_eq_true rfl) fl_5_18 rfl rfl (r := (k0 + 3)) (shR_5_2 t0) ?_
    refine g_aload_n C dX5_add_36 rfl ?_
    refine g_getI (j := 7) C dX5_add_37 t0 (Nat.le_of_ble_eq_true rfl) (Nat.le_of_ble_eq_true rfl) fl_5_35 rfl rfl (fun i7 => ?_)
    refine g_iload_n C dX5_add_40 rfl ?_
    obtain ⟨σ8, qσ8, h⟩ := bnd h
    refine g_iast C dX5_add_41 (shT_5_2 t0) (shL_5_2 t0) qσ8 i7 ia3 ?_
    refine g_aload_n C dX5_add_42 rfl ?_
    refine g_getR (j := 3) C dX5_add_43 t0 (Nat.le_of_ble_eq_true rfl) (Nat.le_of_ble_eq_true rfl) fl_5_21 rfl rfl (r := (k0 + 4)) (shR_5_3 t0) ?_
    refine g_aload_n C dX5_add_46 rfl ?_
    refine g_getI (j := 7) C dX5_add_47 t0 (Nat.le_of_ble_eq_true rfl) (Nat.le_of_ble_eq_true rfl) fl_5_35 rfl rfl (fun i9 => ?_)
    refine g_iconst C dX5_add_50 ?_
    obtain ⟨σ10, qσ10, h⟩ := bnd h
    refine g_zast C dX5_add_51 (shT_5_3 t0) (shL_5_3 t0) qσ10 i9 (Or.inr rfl) ?_
    refine g_aload_n C dX5_add_52 rfl ?_
    refine g_getR (j := 4) C dX5_add_53 t0 (Nat.le_of_ble_eq_true rfl) (Nat.le_of_ble_eq_true rfl) fl_5_25 rfl rfl (r := (k0 + 5)) (shR_5_4 t0) ?_
    refine g_aload_n C dX5_add_56 rfl ?_
    refine g_getI (j := 7) C dX5_add_57 t0 (Nat.le_of_ble_eq_true rfl) (Nat.le_of_ble_eq_true rfl) fl_5_35 rfl rfl (fun i11 => ?_)
    refine g_iconst C dX5_add_60 ?_
    obtain ⟨σ12, qσ12, h⟩ := bnd h
    refine g_iast C dX5_add_61 (shT_5_4 t0) (shL_5_4 t0) qσ12 i11 (by decide) ?_
    refine g_aload_n C dX5_add_62 rfl ?_
    refine g_dup C dX5_add_63 rfl ?_
    refine g_getI (j := 7) C dX5_add_64 t0 (Nat.le_of_ble_eq_true rfl) (Nat.le_of_ble_eq_true rfl) fl_5_35 rfl rfl (fun i13 => ?_)
    refine g_dup_x1 C dX5_add_67 rfl rfl ?_
    refine g_iconst C dX5_add_68 ?_
    refine g_iadd C dX5_add_69 ?_
    obtain ⟨σ14, qσ14, h⟩ := bnd h
    refine g_putI (j := 7) C dX5_add_70 t0 (Nat.le_of_ble_eq_true rfl) (Nat.le_of_ble_eq_true rfl) fl_5_35 rfl rfl rfl rfl qσ14 (iwr _) ?_
    exact g_iretP C dX5_add_73 hr hlk h i13
  · have h := ifF c2 h
    refine g_iconst C dX5_add_10 ?_
    exact g_iretP C dX5_add_11 hr hlk h (by decide)
theorem dX5_codeNamed_0 : decode cX5_codeNamed 0 = .ok (.iconst 0, 1) := by decide +kernel
theorem dX5_codeNamed_1 : decode cX5_codeNamed 1 = .ok (.istore_n 3, 1) := by decide +kernel
theorem dX5_codeNamed_2 : decode cX5_codeNamed 2 = .ok (.iload_n 3, 1) := by decide +kernel
theorem dX5_codeNamed_3 : decode cX5_codeNamed 3 = .ok (.aload_n 0, 1) := by decide +kernel
theorem dX5_codeNamed_4 : decode cX5_codeNamed 4 = .ok (.getfield 39, 3) := by decide +kernel
theorem dX5_codeNamed_7 : decode cX5_codeNamed 7 = .ok (.if_icmp .ge 28, 3) := by decide +kernel
theorem dX5_codeNamed_10 : decode cX5_codeNamed 10 = .ok (.iload_n 3, 1) := by decide +kernel
theorem dX5_codeNamed_11 : decode cX5_codeNamed 11 = .ok (.bipush 8, 2) := by decide +kernel
theorem dX5_codeNamed_13 : decode cX5_codeNamed 13 = .ok (.if_icmp .ge 22, 3) := by decide +kernel
theorem dX5_codeNamed_16 : decode cX5_codeNamed 16 = .ok (.aload_n 0, 1) := by decide +kernel
theorem dX5_codeNamed_17 : decode cX5_codeNamed 17 = .ok (.getfield 28, 3) := by decide +kernel
theorem dX5_codeNamed_20 : decode cX5_codeNamed 20 = .ok (.iload_n 3, 1) := by decide +kernel
theorem dX5_codeNamed_21 : decode cX5_codeNamed 21 = .ok (.laload, 1) := by decide +kernel
theorem dX5_codeNamed_22 : decode cX5_codeNamed 22 = .ok (.lload_n 1, 1) := by decide +kernel
theorem dX5_codeNamed_23 : decode cX5_codeNamed 23 = .ok (.lcmp, 1) := by decide +kernel
theorem dX5_codeNamed_24 : decode cX5_codeNamed 24 = .ok (.ifCond .ne 5, 3) := by decide +kernel
theorem dX5_codeNamed_27 : decode cX5_codeNamed 27 = .ok (.iload_n 3, 1) := by decide +kernel
theorem dX5_codeNamed_28 : decode cX5_codeNamed 28 = .ok (.ireturn, 1) := by decide +kernel
theorem dX5_codeNamed_29 : decode cX5_codeNamed 29 = .ok (.iinc 3 1, 3) := by decide +kernel
theorem dX5_codeNamed_32 : decode cX5_codeNamed 32 = .ok (.goto (-30), 3) := by decide +kernel
theorem dX5_codeNamed_35 : decode cX5_codeNamed 35 = .ok (.iconst (-1), 1) := by decide +kernel
theorem dX5_codeNamed_36 : decode cX5_codeNamed 36 = .ok (.ireturn, 1) := by decide +kernel
abbrev rm_X5_codeNamed : Room := { frames := 0, cells := 0, slots := 0, locals := 0 }
set_option maxRecDepth 100000 in
set_option maxHeartbeats 4000000 in
theorem ct_X5_codeNamed {w : Wd} {l : Launch} {k0 : Nat} {a1 : Int} {σ : St} {y : Int} (t0 : tg k0 = 5) (ia1 : InL a1) (h : m_X5_codeNamed k0 a1 σ = some y) : Ct w l yX5_codeNamed (Cond.code yX5_codeNamed cX5_codeNamed 4 (some .int) :: TB) rm_X5_codeNamed [rv w k0, jv a1] σ (some (iv y)) (InI y) σ := by
  refine Ct.of2 [some (rv w k0), some (jv a1), none, none] 1 rfl pn_RX5 (Nat.le_of_ble_eq_true rfl) ?_
  intro p e s m args below meth c C hr hlk
  unfold m_X5_codeNamed at h
  refine g_iconst C dX5_codeNamed_0 ?_
  refine g_istore_n (L1 := [some (rv w k0), some (jv a1), none, some (iv 0)]) C dX5_codeNamed_1 rfl (Nat.le_of_ble_eq_true rfl) rfl ?_
  obtain ⟨b1, hb1, hF1⟩ := bnd h
  have hX1 : Sum.inl () = b1 → GM w p l e rm_X5_codeNamed s m args below meth c (some (iv y)) (InI y) σ 4 35 [none, none, none, none] [] σ := by
    intro q
    subst q
    have h := hF1
    refine g_iconst C dX5_codeNamed_35 ?_
    exact g_iretU C dX5_codeNamed_36 hr hlk h (by decide)
  have hL1 : ∀ (n : Nat) (x2 : Int) , InI x2 → lpN (fun a => m_X5_codeNamed_L2 σ k0 a1 a) n x2 = some b1 → GM w p l e rm_X5_codeNamed s m args below meth c (some (iv y)) (InI y) σ 4 2 [some (rv w k0), some (jv a1), none, some (iv x2)] [] σ := by
    intro n
    induction n with
    | zero => intro x2 ix2 q; cases q
    | succ n ih1 =>
      intro x2 ix2 q
      obtain ⟨o1, h, hk1⟩ := lp_step q
      replace h : m_X5_codeNamed_L2 σ k0 a1 x2 = some o1 := h
      unfold m_X5_codeNamed_L2 at h
      refine g_iload_n C dX5_codeNamed_2 rfl ?_
      refine g_aload_n C dX5_codeNamed_3 rfl ?_
      refine g_getI (j := 8) C dX5_codeNamed_4 t0 (Nat.le_of_ble_eq_true rfl) (Nat.le_of_ble_eq_true rfl) fl_5_39 rfl rfl (fun i3 => ?_)
      refine g_icmp_ge C dX5_codeNamed_7 ix2 i3 rfl (tgt := 35) (fun c4 => ?_) (fun c4 => ?_)
      · have h := ifT c4 h
        refine g_mask [false, false, true, false] ?_
        obtain rfl := Option.some.inj h
        exact hX1  (lpR hk1).symm
      · have h := ifF c4 h
        refine g_iload_n C dX5_codeNamed_10 rfl ?_
        refine g_bipush C dX5_codeNamed_11 rfl ?_
        refine g_icmp_ge C dX5_codeNamed_13 ix2 (by decide) rfl (tgt := 35) (fun c5 => ?_) (fun c5 => ?_)
        · have h := ifT c5 h
          refine g_mask [false, false, true, false] ?_
          obtain rfl := Option.some.inj h
          exact hX1  (lpR hk1).symm
        · have h := ifF c5 h
          refine g_aload_n C dX5_codeNamed_16 rfl ?_
          refine g_getR (j := 5) C dX5_codeNamed_17 t0 (Nat.le_of_ble_eq_true rfl) (Nat.le_of_ble_eq_true rfl) fl_5_28 rfl rfl (r := (k0 + 6)) (shR_5_5 t0) ?_
          refine g_iload_n C dX5_codeNamed_20 rfl ?_
          obtain ⟨x6, qx6, h⟩ := bnd h
          refine g_lald C dX5_codeNamed_21 (shT_5_5 t0) (shL_5_5 t0) qx6 ix2 (fun ix6 => ?_)
          refine g_lload_n C dX5_codeNamed_22 rfl ?_
          refine g_lcmp C dX5_codeNamed_23 ix6 ia1 ?_
          refine g_if_ne C dX5_codeNamed_24 (ilcI _ _) rfl (tgt := 29) (fun c7 => ?_) (fun c7 => ?_)
          · have h := ifF c7 h
            refine g_iinc (L1 := [some (rv w k0), some (jv a1), none, some (iv (wr (x2 + 1)))]) C dX5_codeNamed_29 rfl rfl (Nat.le_of_ble_eq_true rfl) rfl ?_
            refine g_goto C dX5_codeNamed_32 rfl (tgt := 2) ?_
            obtain rfl := Option.some.inj h
            exact ih1 _ (iwr _) (lpL hk1)
          · have h := ifT c7 h
            refine g_iload_n C dX5_codeNamed_27 rfl ?_
            obtain rfl := Option.some.inj h
            have e1 := (lpR hk1).symm
            subst e1
            have h := hF1
            exact g_iretU C dX5_codeNamed_28 hr hlk h ix2
  exact hL1 FU _ (by decide) hb1
theorem dX5_isStep_0 : decode cX5_isStep 0 = .ok (.iload_n 1, 1) := by decide +kernel
theorem dX5_isStep_1 : decode cX5_isStep 1 = .ok (.ifCond .lt 22, 3) := by decide +kernel
theorem dX5_isStep_4 : decode cX5_isStep 4 = .ok (.iload_n 1, 1) := by decide +kernel
theorem dX5_isStep_5 : decode cX5_isStep 5 = .ok (.aload_n 0, 1) := by decide +kernel
theorem dX5_isStep_6 : decode cX5_isStep 6 = .ok (.getfield 35, 3) := by decide +kernel
theorem dX5_isStep_9 : decode cX5_isStep 9 = .ok (.if_icmp .ge 14, 3) := by decide +kernel
theorem dX5_isStep_12 : decode cX5_isStep 12 = .ok (.iload_n 1, 1) := by decide +kernel
theorem dX5_isStep_13 : decode cX5_isStep 13 = .ok (.sipush 512, 3) := by decide +kernel
theorem dX5_isStep_16 : decode cX5_isStep 16 = .ok (.if_icmp .ge 7, 3) := by decide +kernel
theorem dX5_isStep_19 : decode cX5_isStep 19 = .ok (.iconst 1, 1) := by decide +kernel
theorem dX5_isStep_20 : decode cX5_isStep 20 = .ok (.goto 4, 3) := by decide +kernel
theorem dX5_isStep_23 : decode cX5_isStep 23 = .ok (.iconst 0, 1) := by decide +kernel
theorem dX5_isStep_24 : decode cX5_isStep 24 = .ok (.ireturn, 1) := by decide +kernel
abbrev rm_X5_isStep : Room := { frames := 0, cells := 0, slots := 0, locals := 0 }
set_option maxRecDepth 100000 in
set_option maxHeartbeats 4000000 in
theorem ct_X5_isStep {w : Wd} {l : Launch} {k0 : Nat} {a1 : Int} {σ : St} {y : Int} (t0 : tg k0 = 5) (ia1 : InI a1) (h : m_X5_isStep k0 a1 σ = some y) : Ct w l yX5_isStep (Cond.code yX5_isStep cX5_isStep 2 (some .boolean) :: TB) rm_X5_isStep [rv w k0, iv a1] σ (some (iv y)) (InZ y) σ := by
  refine Ct.of2 [some (rv w k0), some (iv a1)] 0 rfl pn_RX5 (Nat.le_of_ble_eq_true rfl) ?_
  intro p e s m args below meth c C hr hlk
  unfold m_X5_isStep at h
  refine g_iload_n C dX5_isStep_0 rfl ?_
  refine g_if_lt C dX5_isStep_1 ia1 rfl (tgt := 23) (fun c1 => ?_) (fun c1 => ?_)
  · have h := ifT c1 h
    refine g_iconst C dX5_isStep_23 ?_
    exact g_zretU C dX5_isStep_24 hr hlk h (Or.inl rfl)
  · have h := ifF c1 h
    refine g_iload_n C dX5_isStep_4 rfl ?_
    refine g_aload_n C dX5_isStep_5 rfl ?_
    refine g_getI (j := 7) C dX5_isStep_6 t0 (Nat.le_of_ble_eq_true rfl) (Nat.le_of_ble_eq_true rfl) fl_5_35 rfl rfl (fun i2 => ?_)
    refine g_icmp_ge C dX5_isStep_9 ia1 i2 rfl (tgt := 23) (fun c3 => ?_) (fun c3 => ?_)
    · have h := ifT c3 h
      refine g_iconst C dX5_isStep_23 ?_
      exact g_zretU C dX5_isStep_24 hr hlk h (Or.inl rfl)
    · have h := ifF c3 h
      refine g_iload_n C dX5_isStep_12 rfl ?_
      refine g_sipush C dX5_isStep_13 rfl ?_
      refine g_icmp_ge C dX5_isStep_16 ia1 (by decide) rfl (tgt := 23) (fun c4 => ?_) (fun c4 => ?_)
      · have h := ifT c4 h
        refine g_iconst C dX5_isStep_23 ?_
        exact g_zretU C dX5_isStep_24 hr hlk h (Or.inl rfl)
      · have h := ifF c4 h
        refine g_iconst C dX5_isStep_19 ?_
        refine g_goto C dX5_isStep_20 rfl (tgt := 24) ?_
        exact g_zretU C dX5_isStep_24 hr hlk h (Or.inr rfl)
theorem dX5_addIf_0 : decode cX5_addIf 0 = .ok (.aload_n 0, 1) := by decide +kernel
theorem dX5_addIf_1 : decode cX5_addIf 1 = .ok (.bipush 9, 2) := by decide +kernel
theorem dX5_addIf_3 : decode cX5_addIf 3 = .ok (.iload_n 2, 1) := by decide +kernel
theorem dX5_addIf_4 : decode cX5_addIf 4 = .ok (.iload_n 1, 1) := by decide +kernel
theorem dX5_addIf_5 : decode cX5_addIf 5 = .ok (.invokevirtual 42, 3) := by decide +kernel
theorem dX5_addIf_8 : decode cX5_addIf 8 = .ok (.istore 4, 2) := by decide +kernel
theorem dX5_addIf_10 : decode cX5_addIf 10 = .ok (.aload_n 0, 1) := by decide +kernel
theorem dX5_addIf_11 : decode cX5_addIf 11 = .ok (.iload 4, 2) := by decide +kernel
theorem dX5_addIf_13 : decode cX5_addIf 13 = .ok (.invokevirtual 46, 3) := by decide +kernel
theorem dX5_addIf_16 : decode cX5_addIf 16 = .ok (.ifCond .eq 11, 3) := by decide +kernel
theorem dX5_addIf_19 : decode cX5_addIf 19 = .ok (.aload_n 0, 1) := by decide +kernel
theorem dX5_addIf_20 : decode cX5_addIf 20 = .ok (.getfield 21, 3) := by decide +kernel
theorem dX5_addIf_23 : decode cX5_addIf 23 = .ok (.iload 4, 2) := by decide +kernel
theorem dX5_addIf_25 : decode cX5_addIf 25 = .ok (.iload_n 3, 1) := by decide +kernel
theorem dX5_addIf_26 : decode cX5_addIf 26 = .ok (.bastore, 1) := by decide +kernel
theorem dX5_addIf_27 : decode cX5_addIf 27 = .ok (.return_, 1) := by decide +kernel
abbrev rm_X5_addIf : Room := { frames := 1, cells := 0, slots := 0, locals := 23 }
set_option maxRecDepth 100000 in
set_option maxHeartbeats 4000000 in
theorem ct_X5_addIf {w : Wd} {l : Launch} {k0 : Nat} {a1 : Int} {a2 : Int} {a3 : Int} {σ : St} {σ' : St} (t0 : tg k0 = 5) (ia1 : InI a1) (ia2 : InI a2) (ia3 : InZ a3) (h : m_X5_addIf k0 a1 a2 a3 σ = some σ') : Ct w l yX5_addIf (Cond.code yX5_addIf cX5_addIf 5 none :: TB) rm_X5_addIf [rv w k0, iv a1, iv a2, iv a3] σ none True σ' := by
  refine Ct.of2 [some (rv w k0), some (iv a1), some (iv a2), some (iv a3), none] 1 rfl pn_RX5 (Nat.le_of_ble_eq_true rfl) ?_
  intro p e s m args below meth c C hr hlk
  unfold m_X5_addIf at h
  refine g_aload_n C dX5_addIf_0 rfl ?_
  refine g_bipush C dX5_addIf_1 rfl ?_
  refine g_iload_n C dX5_addIf_3 rfl ?_
  refine g_iload_n C dX5_addIf_4 rfl ?_
  obtain ⟨⟨x1, σ2⟩, qx1, h⟩ := bnd h
  refine g_callV1 (As := [iv 9, iv a2, iv a1]) C dX5_addIf_5 mi_X5_add ml_5_42 (ct_X5_add t0 (by decide) ia2 ia1 qx1) t0 rfl ⟨rfl, rfl⟩ ⟨Nat.le_of_ble_eq_true rfl, Nat.le_of_ble_eq_true rfl⟩ ⟨Nat.zero_le _, Nat.zero_le _⟩ rfl (Nat.le_of_ble_eq_true rfl) (fun ix1 => ?_)
  refine g_istore (L1 := [some (rv w k0), some (iv a1), some (iv a2), some (iv a3), some (iv x1)]) C dX5_addIf_8 rfl (Nat.le_of_ble_eq_true rfl) rfl ?_
  refine g_aload_n C dX5_addIf_10 rfl ?_
  refine g_iload C dX5_addIf_11 rfl ?_
  obtain ⟨x3, qx3, h⟩ := bnd h
  refine g_callV1 (As := [iv x1]) C dX5_addIf_13 mi_X5_isStep ml_5_46 (ct_X5_isStep t0 ix1 qx3) t0 rfl ⟨rfl, rfl⟩ ⟨Nat.le_of_ble_eq_true rfl, Nat.le_of_ble_eq_true rfl⟩ ⟨Nat.zero_le _, Nat.zero_le _⟩ rfl (Nat.le_of_ble_eq_true rfl) (fun ix3 => ?_)
  refine g_if_eq C dX5_addIf_16 (zI ix3) rfl (tgt := 27) (fun c4 => ?_) (fun c4 => ?_)
  · have h := ifT c4 h
    exact g_vretP C dX5_addIf_27 hr hlk h
  · have h := ifF c4 h
    refine g_aload_n C dX5_addIf_19 rfl ?_
    refine g_getR (j := 3) C dX5_addIf_20 t0 (Nat.le_of_ble_eq_true rfl) (Nat.le_of_ble_eq_true rfl) fl_5_21 rfl rfl (r := (k0 + 4)) (shR_5_3 t0) ?_
    refine g_iload C dX5_addIf_23 rfl ?_
    refine g_iload_n C dX5_addIf_25 rfl ?_
    obtain ⟨σ5, qσ5, h⟩ := bnd h
    refine g_zast C dX5_addIf_26 (shT_5_3 t0) (shL_5_3 t0) qσ5 ix1 ia3 ?_
    exact g_vretP C dX5_addIf_27 hr hlk h
theorem dX5_aim_0 : decode cX5_aim 0 = .ok (.aload_n 0, 1) := by decide +kernel
theorem dX5_aim_1 : decode cX5_aim 1 = .ok (.iload_n 1, 1) := by decide +kernel
theorem dX5_aim_2 : decode cX5_aim 2 = .ok (.invokevirtual 46, 3) := by decide +kernel
theorem dX5_aim_5 : decode cX5_aim 5 = .ok (.ifCond .eq 10, 3) := by decide +kernel
theorem dX5_aim_8 : decode cX5_aim 8 = .ok (.aload_n 0, 1) := by decide +kernel
theorem dX5_aim_9 : decode cX5_aim 9 = .ok (.getfield 25, 3) := by decide +kernel
theorem dX5_aim_12 : decode cX5_aim 12 = .ok (.iload_n 1, 1) := by decide +kernel
theorem dX5_aim_13 : decode cX5_aim 13 = .ok (.iload_n 2, 1) := by decide +kernel
theorem dX5_aim_14 : decode cX5_aim 14 = .ok (.iastore, 1) := by decide +kernel
theorem dX5_aim_15 : decode cX5_aim 15 = .ok (.return_, 1) := by decide +kernel
abbrev rm_X5_aim : Room := { frames := 1, cells := 0, slots := 0, locals := 21 }
set_option maxRecDepth 100000 in
set_option maxHeartbeats 4000000 in
theorem ct_X5_aim {w : Wd} {l : Launch} {k0 : Nat} {a1 : Int} {a2 : Int} {σ : St} {σ' : St} (t0 : tg k0 = 5) (ia1 : InI a1) (ia2 : InI a2) (h : m_X5_aim k0 a1 a2 σ = some σ') : Ct w l yX5_aim (Cond.code yX5_aim cX5_aim 3 none :: TB) rm_X5_aim [rv w k0, iv a1, iv a2] σ none True σ' := by
  refine Ct.of2 [some (rv w k0), some (iv a1), some (iv a2)] 0 rfl pn_RX5 (Nat.le_of_ble_eq_true rfl) ?_
  intro p e s m args below meth c C hr hlk
  unfold m_X5_aim at h
  refine g_aload_n C dX5_aim_0 rfl ?_
  refine g_iload_n C dX5_aim_1 rfl ?_
  obtain ⟨x1, qx1, h⟩ := bnd h
  refine g_callV1 (As := [iv a1]) C dX5_aim_2 mi_X5_isStep ml_5_46 (ct_X5_isStep t0 ia1 qx1) t0 rfl ⟨rfl, rfl⟩ ⟨Nat.le_of_ble_eq_true rfl, Nat.le_of_ble_eq_true rfl⟩ ⟨Nat.zero_le _, Nat.zero_le _⟩ rfl (Nat.le_of_ble_eq_true rfl) (fun ix1 => ?_)
  refine g_if_eq C dX5_aim_5 (zI ix1) rfl (tgt := 15) (fun c2 => ?_) (fun c2 => ?_)
  · have h := ifT c2 h
    exact g_vretP C dX5_aim_15 hr hlk h
  · have h := ifF c2 h
    refine g_aload_n C dX5_aim_8 rfl ?_
    refine g_getR (j := 4) C dX5_aim_9 t0 (Nat.le_of_ble_eq_true rfl) (Nat.le_of_ble_eq_true rfl) fl_5_25 rfl rfl (r := (k0 + 5)) (shR_5_4 t0) ?_
    refine g_iload_n C dX5_aim_12 rfl ?_
    refine g_iload_n C dX5_aim_13 rfl ?_
    obtain ⟨σ3, qσ3, h⟩ := bnd h
    refine g_iast C dX5_aim_14 (shT_5_4 t0) (shL_5_4 t0) qσ3 ia1 ia2 ?_
    exact g_vretP C dX5_aim_15 hr hlk h
theorem dX5_endCode_0 : decode cX5_endCode 0 = .ok (.aload_n 0, 1) := by decide +kernel
theorem dX5_endCode_1 : decode cX5_endCode 1 = .ok (.getfield 39, 3) := by decide +kernel
theorem dX5_endCode_4 : decode cX5_endCode 4 = .ok (.bipush 8, 2) := by decide +kernel
theorem dX5_endCode_6 : decode cX5_endCode 6 = .ok (.if_icmp .ge 22, 3) := by decide +kernel
theorem dX5_endCode_9 : decode cX5_endCode 9 = .ok (.aload_n 0, 1) := by decide +kernel
theorem dX5_endCode_10 : decode cX5_endCode 10 = .ok (.bipush 34, 2) := by decide +kernel
theorem dX5_endCode_12 : decode cX5_endCode 12 = .ok (.iconst 0, 1) := by decide +kernel
theorem dX5_endCode_13 : decode cX5_endCode 13 = .ok (.iconst 0, 1) := by decide +kernel
theorem dX5_endCode_14 : decode cX5_endCode 14 = .ok (.invokevirtual 42, 3) := by decide +kernel
theorem dX5_endCode_17 : decode cX5_endCode 17 = .ok (.pop, 1) := by decide +kernel
theorem dX5_endCode_18 : decode cX5_endCode 18 = .ok (.aload_n 0, 1) := by decide +kernel
theorem dX5_endCode_19 : decode cX5_endCode 19 = .ok (.dup, 1) := by decide +kernel
theorem dX5_endCode_20 : decode cX5_endCode 20 = .ok (.getfield 39, 3) := by decide +kernel
theorem dX5_endCode_23 : decode cX5_endCode 23 = .ok (.iconst 1, 1) := by decide +kernel
theorem dX5_endCode_24 : decode cX5_endCode 24 = .ok (.iadd, 1) := by decide +kernel
theorem dX5_endCode_25 : decode cX5_endCode 25 = .ok (.putfield 39, 3) := by decide +kernel
theorem dX5_endCode_28 : decode cX5_endCode 28 = .ok (.return_, 1) := by decide +kernel
abbrev rm_X5_endCode : Room := { frames := 1, cells := 0, slots := 0, locals := 23 }
set_option maxRecDepth 100000 in
set_option maxHeartbeats 4000000 in
theorem ct_X5_endCode {w : Wd} {l : Launch} {k0 : Nat} {σ : St} {σ' : St} (t0 : tg k0 = 5) (h : m_X5_endCode k0 σ = some σ') : Ct w l yX5_endCode (Cond.code yX5_endCode cX5_endCode 1 none :: TB) rm_X5_endCode [rv w k0] σ none True σ' := by
  refine Ct.of2 [some (rv w k0)] 0 rfl pn_RX5 (Nat.le_of_ble_eq_true rfl) ?_
  intro p e s m args below meth c C hr hlk
  unfold m_X5_endCode at h
  refine g_aload_n C dX5_endCode_0 rfl ?_
  refine g_getI (j := 8) C dX5_endCode_1 t0 (Nat.le_of_ble_eq_true rfl) (Nat.le_of_ble_eq_true rfl) fl_5_39 rfl rfl (fun i1 => ?_)
  refine g_bipush C dX5_endCode_4 rfl ?_
  refine g_icmp_ge C dX5_endCode_6 i1 (by decide) rfl (tgt := 28) (fun c2 => ?_) (fun c2 => ?_)
  · have h := ifT c2 h
    exact g_vretP C dX5_endCode_28 hr hlk h
  · have h := ifF c2 h
    refine g_aload_n C dX5_endCode_9 rfl ?_
    refine g_bipush C dX5_endCode_10 rfl ?_
    refine g_iconst C dX5_endCode_12 ?_
    refine g_iconst C dX5_endCode_13 ?_
    obtain ⟨⟨x3, σ4⟩, qx3, h⟩ := bnd h
    refine g_callV1 (As := [iv 34, iv 0, iv 0]) C dX5_endCode_14 mi_X5_add ml_5_42 (ct_X5_add t0 (by decide) (by decide) (by decide) qx3) t0 rfl ⟨rfl, rfl⟩ ⟨Nat.le_of_ble_eq_true rfl, Nat.le_of_ble_eq_true rfl⟩ ⟨Nat.zero_le _, Nat.zero_le _⟩ rfl (Nat.le_of_ble_eq_true rfl) (fun ix3 => ?_)
    refine g_pop C dX5_endCode_17 rfl ?_
    refine g_aload_n C dX5_endCode_18 rfl ?_
    refine g_dup C dX5_endCode_19 rfl ?_
    refine g_getI (j := 8) C dX5_endCode_20 t0 (Nat.le_of_ble_eq_true rfl) (Nat.le_of_ble_eq_true rfl) fl_5_39 rfl rfl (fun i5 => ?_)
    refine g_iconst C dX5_endCode_23 ?_
    refine g_iadd C dX5_endCode_24 ?_
    obtain ⟨σ6, qσ6, h⟩ := bnd h
    refine g_putI (j := 8) C dX5_endCode_25 t0 (Nat.le_of_ble_eq_true rfl) (Nat.le_of_ble_eq_true rfl) fl_5_39 rfl rfl rfl rfl qσ6 (iwr _) ?_
    exact g_vretP C dX5_endCode_28 hr hlk h
theorem dX5_beginCode_0 : decode cX5_beginCode 0 = .ok (.aload_n 0, 1) := by decide +kernel
theorem dX5_beginCode_1 : decode cX5_beginCode 1 = .ok (.getfield 39, 3) := by decide +kernel
theorem dX5_beginCode_4 : decode cX5_beginCode 4 = .ok (.bipush 8, 2) := by decide +kernel
theorem dX5_beginCode_6 : decode cX5_beginCode 6 = .ok (.if_icmp .ge 26, 3) := by decide +kernel
theorem dX5_beginCode_9 : decode cX5_beginCode 9 = .ok (.aload_n 0, 1) := by decide +kernel
theorem dX5_beginCode_10 : decode cX5_beginCode 10 = .ok (.getfield 28, 3) := by decide +kernel
theorem dX5_beginCode_13 : decode cX5_beginCode 13 = .ok (.aload_n 0, 1) := by decide +kernel
theorem dX5_beginCode_14 : decode cX5_beginCode 14 = .ok (.getfield 39, 3) := by decide +kernel
theorem dX5_beginCode_17 : decode cX5_beginCode 17 = .ok (.lload_n 1, 1) := by decide +kernel
theorem dX5_beginCode_18 : decode cX5_beginCode 18 = .ok (.lastore, 1) := by decide +kernel
theorem dX5_beginCode_19 : decode cX5_beginCode 19 = .ok (.aload_n 0, 1) := by decide +kernel
theorem dX5_beginCode_20 : decode cX5_beginCode 20 = .ok (.getfield 32, 3) := by decide +kernel
theorem dX5_beginCode_23 : decode cX5_beginCode 23 = .ok (.aload_n 0, 1) := by decide +kernel
theorem dX5_beginCode_24 : decode cX5_beginCode 24 = .ok (.getfield 39, 3) := by decide +kernel
theorem dX5_beginCode_27 : decode cX5_beginCode 27 = .ok (.aload_n 0, 1) := by decide +kernel
theorem dX5_beginCode_28 : decode cX5_beginCode 28 = .ok (.getfield 35, 3) := by decide +kernel
theorem dX5_beginCode_31 : decode cX5_beginCode 31 = .ok (.iastore, 1) := by decide +kernel
theorem dX5_beginCode_32 : decode cX5_beginCode 32 = .ok (.return_, 1) := by decide +kernel
abbrev rm_X5_beginCode : Room := { frames := 0, cells := 0, slots := 0, locals := 0 }
set_option maxRecDepth 100000 in
set_option maxHeartbeats 4000000 in
theorem ct_X5_beginCode {w : Wd} {l : Launch} {k0 : Nat} {a1 : Int} {σ : St} {σ' : St} (t0 : tg k0 = 5) (ia1 : InL a1) (h : m_X5_beginCode k0 a1 σ = some σ') : Ct w l yX5_beginCode (Cond.code yX5_beginCode cX5_beginCode 3 none :: TB) rm_X5_beginCode [rv w k0, jv a1] σ none True σ' := by
  refine Ct.of2 [some (rv w k0), some (jv a1), none] 0 rfl pn_RX5 (Nat.le_of_ble_eq_true rfl) ?_
  intro p e s m args below meth c C hr hlk
  unfold m_X5_beginCode at h
  refine g_aload_n C dX5_beginCode_0 rfl ?_
  refine g_getI (j := 8) C dX5_beginCode_1 t0 (Nat.le_of_ble_eq_true rfl) (Nat.le_of_ble_eq_true rfl) fl_5_39 rfl rfl (fun i1 => ?_)
  refine g_bipush C dX5_beginCode_4 rfl ?_
  refine g_icmp_ge C dX5_beginCode_6 i1 (by decide) rfl (tgt := 32) (fun c2 => ?_) (fun c2 => ?_)
  · have h := ifT c2 h
    exact g_vretP C dX5_beginCode_32 hr hlk h
  · have h := ifF c2 h
    refine g_aload_n C dX5_beginCode_9 rfl ?_
    refine g_getR (j := 5) C dX5_beginCode_10 t0 (Nat.le_of_ble_eq_true rfl) (Nat.le_of_ble_eq_true rfl) fl_5_28 rfl rfl (r := (k0 + 6)) (shR_5_5 t0) ?_
    refine g_aload_n C dX5_beginCode_13 rfl ?_
    refine g_getI (j := 8) C dX5_beginCode_14 t0 (Nat.le_of_ble_eq_true rfl) (Nat.le_of_ble_eq_true rfl) fl_5_39 rfl rfl (fun i3 => ?_)
    refine g_lload_n C dX5_beginCode_17 rfl ?_
    obtain ⟨σ4, qσ4, h⟩ := bnd h
    refine g_last C dX5_beginCode_18 (shT_5_5 t0) (shL_5_5 t0) qσ4 i3 ia1 ?_
    refine g_aload_n C dX5_beginCode_19 rfl ?_
    refine g_getR (j := 6) C dX5_beginCode_20 t0 (Nat.le_of_ble_eq_true rfl) (Nat.le_of_ble_eq_true rfl) fl_5_32 rfl rfl (r := (k0 + 7)) (shR_5_6 t0) ?_
    refine g_aload_n C dX5_beginCode_23 rfl ?_
    refine g_getI (j := 8) C dX5_beginCode_24 t0 (Nat.le_of_ble_eq_true rfl) (Nat.le_of_ble_eq_true rfl) fl_5_39 rfl rfl (fun i5 => ?_)
    refine g_aload_n C dX5_beginCode_27 rfl ?_
    refine g_getI (j := 7) C dX5_beginCode_28 t0 (Nat.le_of_ble_eq_true rfl) (Nat.le_of_ble_eq_true rfl) fl_5_35 rfl rfl (fun i6 => ?_)
    obtain ⟨σ7, qσ7, h⟩ := bnd h
    refine g_iast C dX5_beginCode_31 (shT_5_6 t0) (shL_5_6 t0) qσ7 i5 i6 ?_
    exact g_vretP C dX5_beginCode_32 hr hlk h
theorem dX5_become_0 : decode cX5_become 0 = .ok (.iconst 0, 1) := by decide +kernel
theorem dX5_become_1 : decode cX5_become 1 = .ok (.istore_n 2, 1) := by decide +kernel
theorem dX5_become_2 : decode cX5_become 2 = .ok (.iload_n 2, 1) := by decide +kernel
theorem dX5_become_3 : decode cX5_become 3 = .ok (.sipush 512, 3) := by decide +kernel
theorem dX5_become_6 : decode cX5_become 6 = .ok (.if_icmp .ge 69, 3) := by decide +kernel
theorem dX5_become_9 : decode cX5_become 9 = .ok (.aload_n 0, 1) := by decide +kernel
theorem dX5_become_10 : decode cX5_become 10 = .ok (.getfield 11, 3) := by decide +kernel
theorem dX5_become_13 : decode cX5_become 13 = .ok (.iload_n 2, 1) := by decide +kernel
theorem dX5_become_14 : decode cX5_become 14 = .ok (.aload_n 1, 1) := by decide +kernel
theorem dX5_become_15 : decode cX5_become 15 = .ok (.getfield 11, 3) := by decide +kernel
theorem dX5_become_18 : decode cX5_become 18 = .ok (.iload_n 2, 1) := by decide +kernel
theorem dX5_become_19 : decode cX5_become 19 = .ok (.iaload, 1) := by decide +kernel
theorem dX5_become_20 : decode cX5_become 20 = .ok (.iastore, 1) := by decide +kernel
theorem dX5_become_21 : decode cX5_become 21 = .ok (.aload_n 0, 1) := by decide +kernel
theorem dX5_become_22 : decode cX5_become 22 = .ok (.getfield 15, 3) := by decide +kernel
theorem dX5_become_25 : decode cX5_become 25 = .ok (.iload_n 2, 1) := by decide +kernel
theorem dX5_become_26 : decode cX5_become 26 = .ok (.aload_n 1, 1) := by decide +kernel
theorem dX5_become_27 : decode cX5_become 27 = .ok (.getfield 15, 3) := by decide +kernel
theorem dX5_become_30 : decode cX5_become 30 = .ok (.iload_n 2, 1) := by decide +kernel
theorem dX5_become_31 : decode cX5_become 31 = .ok (.iaload, 1) := by decide +kernel
theorem dX5_become_32 : decode cX5_become 32 = .ok (.iastore, 1) := by decide +kernel
theorem dX5_become_33 : decode cX5_become 33 = .ok (.aload_n 0, 1) := by decide +kernel
theorem dX5_become_34 : decode cX5_become 34 = .ok (.getfield 18, 3) := by decide +kernel
theorem dX5_become_37 : decode cX5_become 37 = .ok (.iload_n 2, 1) := by decide +kernel
theorem dX5_become_38 : decode cX5_become 38 = .ok (.aload_n 1, 1) := by decide +kernel
theorem dX5_become_39 : decode cX5_become 39 = .ok (.getfield 18, 3) := by decide +kernel
theorem dX5_become_42 : decode cX5_become 42 = .ok (.iload_n 2, 1) := by decide +kernel
theorem dX5_become_43 : decode cX5_become 43 = .ok (.iaload, 1) := by decide +kernel
theorem dX5_become_44 : decode cX5_become 44 = .ok (.iastore, 1) := by decide +kernel
theorem dX5_become_45 : decode cX5_become 45 = .ok (.aload_n 0, 1) := by decide +kernel
theorem dX5_become_46 : decode cX5_become 46 = .ok (.getfield 21, 3) := by decide +kernel
theorem dX5_become_49 : decode cX5_become 49 = .ok (.iload_n 2, 1) := by decide +kernel
theorem dX5_become_50 : decode cX5_become 50 = .ok (.aload_n 1, 1) := by decide +kernel
theorem dX5_become_51 : decode cX5_become 51 = .ok (.getfield 21, 3) := by decide +kernel
theorem dX5_become_54 : decode cX5_become 54 = .ok (.iload_n 2, 1) := by decide +kernel
theorem dX5_become_55 : decode cX5_become 55 = .ok (.baload, 1) := by decide +kernel
theorem dX5_become_56 : decode cX5_become 56 = .ok (.bastore, 1) := by decide +kernel
theorem dX5_become_57 : decode cX5_become 57 = .ok (.aload_n 0, 1) := by decide +kernel
theorem dX5_become_58 : decode cX5_become 58 = .ok (.getfield 25, 3) := by decide +kernel
theorem dX5_become_61 : decode cX5_become 61 = .ok (.iload_n 2, 1) := by decide +kernel
theorem dX5_become_62 : decode cX5_become 62 = .ok (.aload_n 1, 1) := by decide +kernel
theorem dX5_become_63 : decode cX5_become 63 = .ok (.getfield 25, 3) := by decide +kernel
theorem dX5_become_66 : decode cX5_become 66 = .ok (.iload_n 2, 1) := by decide +kernel
theorem dX5_become_67 : decode cX5_become 67 = .ok (.iaload, 1) := by decide +kernel
theorem dX5_become_68 : decode cX5_become 68 = .ok (.iastore, 1) := by decide +kernel
theorem dX5_become_69 : decode cX5_become 69 = .ok (.iinc 2 1, 3) := by decide +kernel
theorem dX5_become_72 : decode cX5_become 72 = .ok (.goto (-70), 3) := by decide +kernel
theorem dX5_become_75 : decode cX5_become 75 = .ok (.iconst 0, 1) := by decide +kernel
theorem dX5_become_76 : decode cX5_become 76 = .ok (.istore_n 2, 1) := by decide +kernel
theorem dX5_become_77 : decode cX5_become 77 = .ok (.iload_n 2, 1) := by decide +kernel
theorem dX5_become_78 : decode cX5_become 78 = .ok (.bipush 8, 2) := by decide +kernel
theorem dX5_become_80 : decode cX5_become 80 = .ok (.if_icmp .ge 33, 3) := by decide +kernel
theorem dX5_become_83 : decode cX5_become 83 = .ok (.aload_n 0, 1) := by decide +kernel
theorem dX5_become_84 : decode cX5_become 84 = .ok (.getfield 28, 3) := by decide +kernel
theorem dX5_become_87 : decode cX5_become 87 = .ok (.iload_n 2, 1) := by decide +kernel
theorem dX5_become_88 : decode cX5_become 88 = .ok (.aload_n 1, 1) := by decide +kernel
theorem dX5_become_89 : decode cX5_become 89 = .ok (.getfield 28, 3) := by decide +kernel
theorem dX5_become_92 : decode cX5_become 92 = .ok (.iload_n 2, 1) := by decide +kernel
theorem dX5_become_93 : decode cX5_become 93 = .ok (.laload, 1) := by decide +kernel
theorem dX5_become_94 : decode cX5_become 94 = .ok (.lastore, 1) := by decide +kernel
theorem dX5_become_95 : decode cX5_become 95 = .ok (.aload_n 0, 1) := by decide +kernel
theorem dX5_become_96 : decode cX5_become 96 = .ok (.getfield 32, 3) := by decide +kernel
theorem dX5_become_99 : decode cX5_become 99 = .ok (.iload_n 2, 1) := by decide +kernel
theorem dX5_become_100 : decode cX5_become 100 = .ok (.aload_n 1, 1) := by decide +kernel
theorem dX5_become_101 : decode cX5_become 101 = .ok (.getfield 32, 3) := by decide +kernel
theorem dX5_become_104 : decode cX5_become 104 = .ok (.iload_n 2, 1) := by decide +kernel
theorem dX5_become_105 : decode cX5_become 105 = .ok (.iaload, 1) := by decide +kernel
theorem dX5_become_106 : decode cX5_become 106 = .ok (.iastore, 1) := by decide +kernel
theorem dX5_become_107 : decode cX5_become 107 = .ok (.iinc 2 1, 3) := by decide +kernel
theorem dX5_become_110 : decode cX5_become 110 = .ok (.goto (-33), 3) := by decide +kernel
theorem dX5_become_113 : decode cX5_become 113 = .ok (.aload_n 0, 1) := by decide +kernel
theorem dX5_become_114 : decode cX5_become 114 = .ok (.aload_n 1, 1) := by decide +kernel
theorem dX5_become_115 : decode cX5_become 115 = .ok (.getfield 35, 3) := by decide +kernel
theorem dX5_become_118 : decode cX5_become 118 = .ok (.putfield 35, 3) := by decide +kernel
theorem dX5_become_121 : decode cX5_become 121 = .ok (.aload_n 0, 1) := by decide +kernel
theorem dX5_become_122 : decode cX5_become 122 = .ok (.aload_n 1, 1) := by decide +kernel
theorem dX5_become_123 : decode cX5_become 123 = .ok (.getfield 39, 3) := by decide +kernel
theorem dX5_become_126 : decode cX5_become 126 = .ok (.putfield 39, 3) := by decide +kernel
theorem dX5_become_129 : decode cX5_become 129 = .ok (.return_, 1) := by decide +kernel
abbrev rm_X5_become : Room := { frames := 0, cells := 0, slots := 0, locals := 0 }
set_option maxRecDepth 100000 in
set_option maxHeartbeats 4000000 in
theorem ct_X5_become {w : Wd} {l : Launch} {k0 : Nat} {a1 : Nat} {σ : St} {σ' : St} (t0 : tg k0 = 5) (ta1 : tg a1 = 5) (h : m_X5_become k0 a1 σ = some σ') : Ct w l yX5_become (Cond.code yX5_become cX5_become 3 none :: TB) rm_X5_become [rv w k0, rv w a1] σ none True σ' := by
  refine Ct.of2 [some (rv w k0), some (rv w a1), none] 1 rfl pn_RX5 (Nat.le_of_ble_eq_true rfl) ?_
  intro p e s m args below meth c C hr hlk
  unfold m_X5_become at h
  refine g_iconst C dX5_become_0 ?_
  refine g_istore_n (L1 := [some (rv w k0), some (rv w a1), some (iv 0)]) C dX5_become_1 rfl (Nat.le_of_ble_eq_true rfl) rfl ?_
  obtain ⟨b1, hb1, hF1⟩ := bnd h
  have hX1 : ∀ (σ15 : St) , σ15 = b1 → GM w p l e rm_X5_become s m args below meth c none True σ' 3 75 [some (rv w k0), some (rv w a1), none] [] σ15 := by
    intro σ15 q
    subst q
    have h := hF1
    refine g_iconst C dX5_become_75 ?_
    refine g_istore_n (L1 := [some (rv w k0), some (rv w a1), some (iv 0)]) C dX5_become_76 rfl (Nat.le_of_ble_eq_true rfl) rfl ?_
    obtain ⟨b16, hb16, hF16⟩ := bnd h
    have hX16 : ∀ (σ24 : St) , σ24 = b16 → GM w p l e rm_X5_become s m args below meth c none True σ' 3 113 [some (rv w k0), some (rv w a1), none] [] σ24 := by
      intro σ24 q
      subst q
      have h := hF16
      refine g_aload_n C dX5_become_113 rfl ?_
      refine g_aload_n C dX5_become_114 rfl ?_
      refine g_getI (j := 7) C dX5_become_115 ta1 (Nat.le_of_ble_eq_true rfl) (Nat.le_of_ble_eq_true rfl) fl_5_35 rfl rfl (fun i25 => ?_)
      obtain ⟨σ26, qσ26, h⟩ := bnd h
      refine g_putI (j := 7) C dX5_become_118 t0 (Nat.le_of_ble_eq_true rfl) (Nat.le_of_ble_eq_true rfl) fl_5_35 rfl rfl rfl rfl qσ26 i25 ?_
      refine g_aload_n C dX5_become_121 rfl ?_
      refine g_aload_n C dX5_become_122 rfl ?_
      refine g_getI (j := 8) C dX5_become_123 ta1 (Nat.le_of_ble_eq_true rfl) (Nat.le_of_ble_eq_true rfl) fl_5_39 rfl rfl (fun i27 => ?_)
      obtain ⟨σ28, qσ28, h⟩ := bnd h
      refine g_putI (j := 8) C dX5_become_126 t0 (Nat.le_of_ble_eq_true rfl) (Nat.le_of_ble_eq_true rfl) fl_5_39 rfl rfl rfl rfl qσ28 i27 ?_
      exact g_vretP C dX5_become_129 hr hlk h
    have hL16 : ∀ (n : Nat) (x17 : Int) (σ18 : St) , InI x17 → lpN (fun a => m_X5_become_L77 a1 k0 a.1 a.2) n (x17, σ18) = some b16 → GM w p l e rm_X5_become s m args below meth c none True σ' 3 77 [some (rv w k0), some (rv w a1), some (iv x17)] [] σ18 := by
      intro n
      induction n with
      | zero => intro x17 σ18 ix17 q; cases q
      | succ n ih16 =>
        intro x17 σ18 ix17 q
        obtain ⟨o16, h, hk16⟩ := lp_step q
        replace h : m_X5_become_L77 a1 k0 x17 σ18 = some o16 := h
        unfold m_X5_become_L77 at h
        refine g_iload_n C dX5_become_77 rfl ?_
        refine g_bipush C dX5_become_78 rfl ?_
        refine g_icmp_ge C dX5_become_80 ix17 (by decide) rfl (tgt := 113) (fun c19 => ?_) (fun c19 => ?_)
        · have h := ifT c19 h
          refine g_mask [true, true, false] ?_
          obtain rfl := Option.some.inj h
          exact hX16 σ18 (lpR hk16).symm
        · have h := ifF c19 h
          refine g_aload_n C dX5_become_83 rfl ?_
          refine g_getR (j := 5) C dX5_become_84 t0 (Nat.le_of_ble_eq_true rfl) (Nat.le_of_ble_eq_true rfl) fl_5_28 rfl rfl (r := (k0 + 6)) (shR_5_5 t0) ?_
          refine g_iload_n C dX5_become_87 rfl ?_
          refine g_aload_n C dX5_become_88 rfl ?_
          refine g_getR (j := 5) C dX5_become_89 ta1 (Nat.le_of_ble_eq_true rfl) (Nat.le_of_ble_eq_true rfl) fl_5_28 rfl rfl (r := (a1 + 6)) (shR_5_5 ta1) ?_
          refine g_iload_n C dX5_become_92 rfl ?_
          obtain ⟨x20, qx20, h⟩ := bnd h
          refine g_lald C dX5_become_93 (shT_5_5 ta1) (shL_5_5 ta1) qx20 ix17 (fun ix20 => ?_)
          obtain ⟨σ21, qσ21, h⟩ := bnd h
          refine g_last C dX5_become_94 (shT_5_5 t0) (shL_5_5 t0) qσ21 ix17 ix20 ?_
          refine g_aload_n C dX5_become_95 rfl ?_
          refine g_getR (j := 6) C dX5_become_96 t0 (Nat.le_of_ble_eq_true rfl) (Nat.le_of_ble_eq_true rfl) fl_5_32 rfl rfl (r := (k0 + 7)) (shR_5_6 t0) ?_
          refine g_iload_n C dX5_become_99 rfl ?_
          refine g_aload_n C dX5_become_100 rfl ?_
          refine g_getR (j := 6) C dX5_become_101 ta1 (Nat.le_of_ble_eq_true rfl) (Nat.le_of_ble_eq_true rfl) fl_5_32 rfl rfl (r := (a1 + 7)) (shR_5_6 ta1) ?_
          refine g_iload_n C dX5_become_104 rfl ?_
          obtain ⟨x22, qx22, h⟩ := bnd h
          refine g_iald C dX5_become_105 (shT_5_6 ta1) (shL_5_6 ta1) qx22 ix17 (fun ix22 => ?_)
          obtain ⟨σ23, qσ23, h⟩ := bnd h
          refine g_iast C dX5_become_106 (shT_5_6 t0) (shL_5_6 t0) qσ23 ix17 ix22 ?_
          refine g_iinc (L1 := [some (rv w k0), some (rv w a1), some (iv (wr (x17 + 1)))]) C dX5_become_107 rfl rfl (Nat.le_of_ble_eq_true rfl) rfl ?_
          refine g_goto C dX5_become_110 rfl (tgt := 77) ?_
          obtain rfl := Option.some.inj h
          exact ih16 _ _ (iwr _) (lpL hk16)
    exact hL16 FU _ _ (by decide) hb16
  have hL1 : ∀ (n : Nat) (x2 : Int) (σ3 : St) , InI x2 → lpN (fun a => m_X5_become_L2 a1 k0 a.1 a.2) n (x2, σ3) = some b1 → GM w p l e rm_X5_become s m args below meth c none True σ' 3 2 [some (rv w k0), some (rv w a1), some (iv x2)] [] σ3 := by
    intro n
    induction n with
    | zero => intro x2 σ3 ix2 q; cases q
    | succ n ih1 =>
      intro x2 σ3 ix2 q
      obtain ⟨o1, h, hk1⟩ := lp_step q
      replace h : m_X5_become_L2 a1 k0 x2 σ3 = some o1 := h
      unfold m_X5_become_L2 at h
      refine g_iload_n C dX5_become_2 rfl ?_
      refine g_sipush C dX5_become_3 rfl ?_
      refine g_icmp_ge C dX5_become_6 ix2 (by decide) rfl (tgt := 75) (fun c4 => ?_) (fun c4 => ?_)
      · have h := ifT c4 h
        refine g_mask [true, true, false] ?_
        obtain rfl := Option.some.inj h
        exact hX1 σ3 (lpR hk1).symm
      · have h := ifF c4 h
        refine g_aload_n C dX5_become_9 rfl ?_
        refine g_getR (j := 0) C dX5_become_10 t0 (Nat.le_of_ble_eq_true rfl) (Nat.le_of_ble_eq_true rfl) fl_5_11 rfl rfl (r := (k0 + 1)) (shR_5_0 t0) ?_
        refine g_iload_n C dX5_become_13 rfl ?_
        refine g_aload_n C dX5_become_14 rfl ?_
        refine g_getR (j := 0) C dX5_become_15 ta1 (Nat.le_of_ble_eq_true rfl) (Nat.le_of_ble_eq_true rfl) fl_5_11 rfl rfl (r := (a1 + 1)) (shR_5_0 ta1) ?_
        refine g_iload_n C dX5_become_18 rfl ?_
        obtain ⟨x5, qx5, h⟩ := bnd h
        refine g_iald C dX5_become_19 (shT_5_0 ta1) (shL_5_0 ta1) qx5 ix2 (fun ix5 => ?_)
        obtain ⟨σ6, qσ6, h⟩ := bnd h
        refine g_iast C dX5_become_20 (shT_5_0 t0) (shL_5_0 t0) qσ6 ix2 ix5 ?_
        refine g_aload_n C dX5_become_21 rfl ?_
        refine g_getR (j := 1) C dX5_become_22 t0 (Nat.le_of_ble_eq_true rfl) (Nat.le_of_ble_eq_true rfl) fl_5_15 rfl rfl (r := (k0 + 2)) (shR_5_1 t0) ?_
        refine g_iload_n C dX5_become_25 rfl ?_
        refine g_aload_n C dX5_become_26 rfl ?_
        refine g_getR (j := 1) C dX5_become_27 ta1 (Nat.le_of_ble_eq_true rfl) (Nat.le_of_ble_eq_true rfl) fl_5_15 rfl rfl (r := (a1 + 2)) (shR_5_1 ta1) ?_
        refine g_iload_n C dX5_become_30 rfl ?_
        obtain ⟨x7, qx7, h⟩ := bnd h
        refine g_iald C dX5_become_31 (shT_5_1 ta1) (shL_5_1 ta1) qx7 ix2 (fun ix7 => ?_)
        obtain ⟨σ8, qσ8, h⟩ := bnd h
        refine g_iast C dX5_become_32 (shT_5_1 t0) (shL_5_1 t0) qσ8 ix2 ix7 ?_
        refine g_aload_n C dX5_become_33 rfl ?_
        refine g_getR (j := 2) C dX5_become_34 t0 (Nat.le_of_ble_eq_true rfl) (Nat.le_of_ble_eq_true rfl) fl_5_18 rfl rfl (r := (k0 + 3)) (shR_5_2 t0) ?_
        refine g_iload_n C dX5_become_37 rfl ?_
        refine g_aload_n C dX5_become_38 rfl ?_
        refine g_getR (j := 2) C dX5_become_39 ta1 (Nat.le_of_ble_eq_true rfl) (Nat.le_of_ble_eq_true rfl) fl_5_18 rfl rfl (r := (a1 + 3)) (shR_5_2 ta1) ?_
        refine g_iload_n C dX5_become_42 rfl ?_
        obtain ⟨x9, qx9, h⟩ := bnd h
        refine g_iald C dX5_become_43 (shT_5_2 ta1) (shL_5_2 ta1) qx9 ix2 (fun ix9 => ?_)
        obtain ⟨σ10, qσ10, h⟩ := bnd h
        refine g_iast C dX5_become_44 (shT_5_2 t0) (shL_5_2 t0) qσ10 ix2 ix9 ?_
        refine g_aload_n C dX5_become_45 rfl ?_
        refine g_getR (j := 3) C dX5_become_46 t0 (Nat.le_of_ble_eq_true rfl) (Nat.le_of_ble_eq_true rfl) fl_5_21 rfl rfl (r := (k0 + 4)) (shR_5_3 t0) ?_
        refine g_iload_n C dX5_become_49 rfl ?_
        refine g_aload_n C dX5_become_50 rfl ?_
        refine g_getR (j := 3) C dX5_become_51 ta1 (Nat.le_of_ble_eq_true rfl) (Nat.le_of_ble_eq_true rfl) fl_5_21 rfl rfl (r := (a1 + 4)) (shR_5_3 ta1) ?_
        refine g_iload_n C dX5_become_54 rfl ?_
        obtain ⟨x11, qx11, h⟩ := bnd h
        refine g_zald C dX5_become_55 (shT_5_3 ta1) (shL_5_3 ta1) qx11 ix2 (fun ix11 => ?_)
        obtain ⟨σ12, qσ12, h⟩ := bnd h
        refine g_zast C dX5_become_56 (shT_5_3 t0) (shL_5_3 t0) qσ12 ix2 ix11 ?_
        refine g_aload_n C dX5_become_57 rfl ?_
        refine g_getR (j := 4) C dX5_become_58 t0 (Nat.le_of_ble_eq_true rfl) (Nat.le_of_ble_eq_true rfl) fl_5_25 rfl rfl (r := (k0 + 5)) (shR_5_4 t0) ?_
        refine g_iload_n C dX5_become_61 rfl ?_
        refine g_aload_n C dX5_become_62 rfl ?_
        refine g_getR (j := 4) C dX5_become_63 ta1 (Nat.le_of_ble_eq_true rfl) (Nat.le_of_ble_eq_true rfl) fl_5_25 rfl rfl (r := (a1 + 5)) (shR_5_4 ta1) ?_
        refine g_iload_n C dX5_become_66 rfl ?_
        obtain ⟨x13, qx13, h⟩ := bnd h
        refine g_iald C dX5_become_67 (shT_5_4 ta1) (shL_5_4 ta1) qx13 ix2 (fun ix13 => ?_)
        obtain ⟨σ14, qσ14, h⟩ := bnd h
        refine g_iast C dX5_become_68 (shT_5_4 t0) (shL_5_4 t0) qσ14 ix2 ix13 ?_
        refine g_iinc (L1 := [some (rv w k0), some (rv w a1), some (iv (wr (x2 + 1)))]) C dX5_become_69 rfl rfl (Nat.le_of_ble_eq_true rfl) rfl ?_
        refine g_goto C dX5_become_72 rfl (tgt := 2) ?_
        obtain rfl := Option.some.inj h
        exact ih1 _ _ (iwr _) (lpL hk1)
  exact hL1 FU _ _ (by decide) hb1
theorem dX5_firstStep_0 : decode cX5_firstStep 0 = .ok (.iload_n 1, 1) := by decide +kernel
theorem dX5_firstStep_1 : decode cX5_firstStep 1 = .ok (.ifCond .lt 26, 3) := by decide +kernel
theorem dX5_firstStep_4 : decode cX5_firstStep 4 = .ok (.iload_n 1, 1) := by decide +kernel
theorem dX5_firstStep_5 : decode cX5_firstStep 5 = .ok (.aload_n 0, 1) := by decide +kernel
theorem dX5_firstStep_6 : decode cX5_firstStep 6 = .ok (.getfield 39, 3) := by decide +kernel
theorem dX5_firstStep_9 : decode cX5_firstStep 9 = .ok (.if_icmp .ge 18, 3) := by decide +kernel
theorem dX5_firstStep_12 : decode cX5_firstStep 12 = .ok (.iload_n 1, 1) := by decide +kernel
theorem dX5_firstStep_13 : decode cX5_firstStep 13 = .ok (.bipush 8, 2) := by decide +kernel
theorem dX5_firstStep_15 : decode cX5_firstStep 15 = .ok (.if_icmp .ge 12, 3) := by decide +kernel
theorem dX5_firstStep_18 : decode cX5_firstStep 18 = .ok (.aload_n 0, 1) := by decide +kernel
theorem dX5_firstStep_19 : decode cX5_firstStep 19 = .ok (.getfield 32, 3) := by decide +kernel
theorem dX5_firstStep_22 : decode cX5_firstStep 22 = .ok (.iload_n 1, 1) := by decide +kernel
theorem dX5_firstStep_23 : decode cX5_firstStep 23 = .ok (.iaload, 1) := by decide +kernel
theorem dX5_firstStep_24 : decode cX5_firstStep 24 = .ok (.goto 4, 3) := by decide +kernel
theorem dX5_firstStep_27 : decode cX5_firstStep 27 = .ok (.iconst (-1), 1) := by decide +kernel
theorem dX5_firstStep_28 : decode cX5_firstStep 28 = .ok (.ireturn, 1) := by decide +kernel
abbrev rm_X5_firstStep : Room := { frames := 0, cells := 0, slots := 0, locals := 0 }
set_option maxRecDepth 100000 in
set_option maxHeartbeats 4000000 in
theorem ct_X5_firstStep {w : Wd} {l : Launch} {k0 : Nat} {a1 : Int} {σ : St} {y : Int} (t0 : tg k0 = 5) (ia1 : InI a1) (h : m_X5_firstStep k0 a1 σ = some y) : Ct w l yX5_firstStep (Cond.code yX5_firstStep cX5_firstStep 2 (some .int) :: TB) rm_X5_firstStep [rv w k0, iv a1] σ (some (iv y)) (InI y) σ := by
  refine Ct.of2 [some (rv w k0), some (iv a1)] 0 rfl pn_RX5 (Nat.le_of_ble_eq_true rfl) ?_
  intro p e s m args below meth c C hr hlk
  unfold m_X5_firstStep at h
  refine g_iload_n C dX5_firstStep_0 rfl ?_
  refine g_if_lt C dX5_firstStep_1 ia1 rfl (tgt := 27) (fun c1 => ?_) (fun c1 => ?_)
  · have h := ifT c1 h
    refine g_iconst C dX5_firstStep_27 ?_
    exact g_iretU C dX5_firstStep_28 hr hlk h (by decide)
  · have h := ifF c1 h
    refine g_iload_n C dX5_firstStep_4 rfl ?_
    refine g_aload_n C dX5_firstStep_5 rfl ?_
    refine g_getI (j := 8) C dX5_firstStep_6 t0 (Nat.le_of_ble_eq_true rfl) (Nat.le_of_ble_eq_true rfl) fl_5_39 rfl rfl (fun i2 => ?_)
    refine g_icmp_ge C dX5_firstStep_9 ia1 i2 rfl (tgt := 27) (fun c3 => ?_) (fun c3 => ?_)
    · have h := ifT c3 h
      refine g_iconst C dX5_firstStep_27 ?_
      exact g_iretU C dX5_firstStep_28 hr hlk h (by decide)
    · have h := ifF c3 h
      refine g_iload_n C dX5_firstStep_12 rfl ?_
      refine g_bipush C dX5_firstStep_13 rfl ?_
      refine g_icmp_ge C dX5_firstStep_15 ia1 (by decide) rfl (tgt := 27) (fun c4 => ?_) (fun c4 => ?_)
      · have h := ifT c4 h
        refine g_iconst C dX5_firstStep_27 ?_
        exact g_iretU C dX5_firstStep_28 hr hlk h (by decide)
      · have h := ifF c4 h
        refine g_aload_n C dX5_firstStep_18 rfl ?_
        refine g_getR (j := 6) C dX5_firstStep_19 t0 (Nat.le_of_ble_eq_true rfl) (Nat.le_of_ble_eq_true rfl) fl_5_32 rfl rfl (r := (k0 + 7)) (shR_5_6 t0) ?_
        refine g_iload_n C dX5_firstStep_22 rfl ?_
        obtain ⟨x5, qx5, h⟩ := bnd h
        refine g_iald C dX5_firstStep_23 (shT_5_6 t0) (shL_5_6 t0) qx5 ia1 (fun ix5 => ?_)
        refine g_goto C dX5_firstStep_24 rfl (tgt := 28) ?_
        exact g_iretU C dX5_firstStep_28 hr hlk h ix5
theorem dX10_allSpots_0 : decode cX10_allSpots 0 = .ok (.iconst 1, 1) := by decide +kernel
theorem dX10_allSpots_1 : decode cX10_allSpots 1 = .ok (.aload_n 0, 1) := by decide +kernel
theorem dX10_allSpots_2 : decode cX10_allSpots 2 = .ok (.getfield 26, 3) := by decide +kernel
theorem dX10_allSpots_5 : decode cX10_allSpots 5 = .ok (.ishl, 1) := by decide +kernel
theorem dX10_allSpots_6 : decode cX10_allSpots 6 = .ok (.iconst 1, 1) := by decide +kernel
theorem dX10_allSpots_7 : decode cX10_allSpots 7 = .ok (.isub, 1) := by decide +kernel
theorem dX10_allSpots_8 : decode cX10_allSpots 8 = .ok (.ireturn, 1) := by decide +kernel
abbrev rm_X10_allSpots : Room := { frames := 0, cells := 0, slots := 0, locals := 0 }
set_option maxRecDepth 100000 in
set_option maxHeartbeats 4000000 in
theorem ct_X10_allSpots {w : Wd} {l : Launch} {σ : St} {y : Int} (h : m_X10_allSpots σ = some y) : Ct w l yX10_allSpots (Cond.code yX10_allSpots cX10_allSpots 1 (some .int) :: TB) rm_X10_allSpots [rv w 1] σ (some (iv y)) (InI y) σ := by
  refine Ct.of2 [some (rv w 1)] 0 rfl pn_RX10 (Nat.le_of_ble_eq_true rfl) ?_
  intro p e s m args below meth c C hr hlk
  unfold m_X10_allSpots at h
  refine g_iconst C dX10_allSpots_0 ?_
  refine g_aload_n C dX10_allSpots_1 rfl ?_
  refine g_getI (j := 4) C dX10_allSpots_2 rfl (Nat.le_of_ble_eq_true rfl) (Nat.le_of_ble_eq_true rfl) fl_10_26 rfl rfl (fun i1 => ?_)
  refine g_ishl C dX10_allSpots_5 ?_
  refine g_iconst C dX10_allSpots_6 ?_
  refine g_isub C dX10_allSpots_7 ?_
  exact g_iretU C dX10_allSpots_8 hr hlk h (iwr _)
theorem dX10_across_0 : decode cX10_across 0 = .ok (.iload_n 2, 1) := by decide +kernel
theorem dX10_across_1 : decode cX10_across 1 = .ok (.aload_n 0, 1) := by decide +kernel
theorem dX10_across_2 : decode cX10_across 2 = .ok (.getfield 9, 3) := by decide +kernel
theorem dX10_across_5 : decode cX10_across 5 = .ok (.iload_n 1, 1) := by decide +kernel
theorem dX10_across_6 : decode cX10_across 6 = .ok (.iaload, 1) := by decide +kernel
theorem dX10_across_7 : decode cX10_across 7 = .ok (.ishr, 1) := by decide +kernel
theorem dX10_across_8 : decode cX10_across 8 = .ok (.iconst 1, 1) := by decide +kernel
theorem dX10_across_9 : decode cX10_across 9 = .ok (.iand, 1) := by decide +kernel
theorem dX10_across_10 : decode cX10_across 10 = .ok (.aload_n 0, 1) := by decide +kernel
theorem dX10_across_11 : decode cX10_across 11 = .ok (.getfield 15, 3) := by decide +kernel
theorem dX10_across_14 : decode cX10_across 14 = .ok (.iload_n 1, 1) := by decide +kernel
theorem dX10_across_15 : decode cX10_across 15 = .ok (.iaload, 1) := by decide +kernel
theorem dX10_across_16 : decode cX10_across 16 = .ok (.ishl, 1) := by decide +kernel
theorem dX10_across_17 : decode cX10_across 17 = .ok (.iload_n 2, 1) := by decide +kernel
theorem dX10_across_18 : decode cX10_across 18 = .ok (.aload_n 0, 1) := by decide +kernel
theorem dX10_across_19 : decode cX10_across 19 = .ok (.getfield 15, 3) := by decide +kernel
theorem dX10_across_22 : decode cX10_across 22 = .ok (.iload_n 1, 1) := by decide +kernel
theorem dX10_across_23 : decode cX10_across 23 = .ok (.iaload, 1) := by decide +kernel
theorem dX10_across_24 : decode cX10_across 24 = .ok (.ishr, 1) := by decide +kernel
theorem dX10_across_25 : decode cX10_across 25 = .ok (.iconst 1, 1) := by decide +kernel
theorem dX10_across_26 : decode cX10_across 26 = .ok (.iand, 1) := by decide +kernel
theorem dX10_across_27 : decode cX10_across 27 = .ok (.aload_n 0, 1) := by decide +kernel
theorem dX10_across_28 : decode cX10_across 28 = .ok (.getfield 9, 3) := by decide +kernel
theorem dX10_across_31 : decode cX10_across 31 = .ok (.iload_n 1, 1) := by decide +kernel
theorem dX10_across_32 : decode cX10_across 32 = .ok (.iaload, 1) := by decide +kernel
theorem dX10_across_33 : decode cX10_across 33 = .ok (.ishl, 1) := by decide +kernel
theorem dX10_across_34 : decode cX10_across 34 = .ok (.ior, 1) := by decide +kernel
theorem dX10_across_35 : decode cX10_across 35 = .ok (.ireturn, 1) := by decide +kernel
abbrev rm_X10_across : Room := { frames := 0, cells := 0, slots := 0, locals := 0 }
set_option maxRecDepth 100000 in
set_option maxHeartbeats 4000000 in
theorem ct_X10_across {w : Wd} {l : Launch} {a1 : Int} {a2 : Int} {σ : St} {y : Int} (ia1 : InI a1) (ia2 : InI a2) (h : m_X10_across a1 a2 σ = some y) : Ct w l yX10_across (Cond.code yX10_across cX10_across 3 (some .int) :: TB) rm_X10_across [rv w 1, iv a1, iv a2] σ (some (iv y)) (InI y) σ := by
  refine Ct.of2 [some (rv w 1), some (iv a1), some (iv a2)] 0 rfl pn_RX10 (Nat.le_of_ble_eq_true rfl) ?_
  intro p e s m args below meth c C hr hlk
  unfold m_X10_across at h
  refine g_iload_n C dX10_across_0 rfl ?_
  refine g_aload_n C dX10_across_1 rfl ?_
  refine g_getR (j := 0) C dX10_across_2 rfl (Nat.le_of_ble_eq_true rfl) (Nat.le_of_ble_eq_true rfl) fl_10_9 rfl rfl (r := 2) rfl ?_
  refine g_iload_n C dX10_across_5 rfl ?_
  obtain ⟨x1, qx1, h⟩ := bnd h
  refine g_iald C dX10_across_6 rfl rfl qx1 ia1 (fun ix1 => ?_)
  refine g_ishr C dX10_across_7 ?_
  refine g_iconst C dX10_across_8 ?_
  refine g_iand C dX10_across_9 ?_
  refine g_aload_n C dX10_across_10 rfl ?_
  refine g_getR (j := 1) C dX10_across_11 rfl (Nat.le_of_ble_eq_true rfl) (Nat.le_of_ble_eq_true rfl) fl_10_15 rfl rfl (r := 3) rfl ?_
  refine g_iload_n C dX10_across_14 rfl ?_
  obtain ⟨x2, qx2, h⟩ := bnd h
  refine g_iald C dX10_across_15 rfl rfl qx2 ia1 (fun ix2 => ?_)
  refine g_ishl C dX10_across_16 ?_
  refine g_iload_n C dX10_across_17 rfl ?_
  refine g_aload_n C dX10_across_18 rfl ?_
  refine g_getR (j := 1) C dX10_across_19 rfl (Nat.le_of_ble_eq_true rfl) (Nat.le_of_ble_eq_true rfl) fl_10_15 rfl rfl (r := 3) rfl ?_
  refine g_iload_n C dX10_across_22 rfl ?_
  obtain ⟨x3, qx3, h⟩ := bnd h
  refine g_iald C dX10_across_23 rfl rfl qx3 ia1 (fun ix3 => ?_)
  refine g_ishr C dX10_across_24 ?_
  refine g_iconst C dX10_across_25 ?_
  refine g_iand C dX10_across_26 ?_
  refine g_aload_n C dX10_across_27 rfl ?_
  refine g_getR (j := 0) C dX10_across_28 rfl (Nat.le_of_ble_eq_true rfl) (Nat.le_of_ble_eq_true rfl) fl_10_9 rfl rfl (r := 2) rfl ?_
  refine g_iload_n C dX10_across_31 rfl ?_
  obtain ⟨x4, qx4, h⟩ := bnd h
  refine g_iald C dX10_across_32 rfl rfl qx4 ia1 (fun ix4 => ?_)
  refine g_ishl C dX10_across_33 ?_
  refine g_ior C dX10_across_34 ?_
  exact g_iretU C dX10_across_35 hr hlk h (ior _ _)
theorem dX10_otherEnd_0 : decode cX10_otherEnd 0 = .ok (.aload_n 0, 1) := by decide +kernel
theorem dX10_otherEnd_1 : decode cX10_otherEnd 1 = .ok (.getfield 9, 3) := by decide +kernel
theorem dX10_otherEnd_4 : decode cX10_otherEnd 4 = .ok (.iload_n 1, 1) := by decide +kernel
theorem dX10_otherEnd_5 : decode cX10_otherEnd 5 = .ok (.iaload, 1) := by decide +kernel
theorem dX10_otherEnd_6 : decode cX10_otherEnd 6 = .ok (.iload_n 2, 1) := by decide +kernel
theorem dX10_otherEnd_7 : decode cX10_otherEnd 7 = .ok (.if_icmp .ne 10, 3) := by decide +kernel
theorem dX10_otherEnd_10 : decode cX10_otherEnd 10 = .ok (.aload_n 0, 1) := by decide +kernel
theorem dX10_otherEnd_11 : decode cX10_otherEnd 11 = .ok (.getfield 15, 3) := by decide +kernel
theorem dX10_otherEnd_14 : decode cX10_otherEnd 14 = .ok (.iload_n 1, 1) := by decide +kernel
theorem dX10_otherEnd_15 : decode cX10_otherEnd 15 = .ok (.iaload, 1) := by decide +kernel
theorem dX10_otherEnd_16 : decode cX10_otherEnd 16 = .ok (.ireturn, 1) := by decide +kernel
theorem dX10_otherEnd_17 : decode cX10_otherEnd 17 = .ok (.aload_n 0, 1) := by decide +kernel
theorem dX10_otherEnd_18 : decode cX10_otherEnd 18 = .ok (.getfield 15, 3) := by decide +kernel
theorem dX10_otherEnd_21 : decode cX10_otherEnd 21 = .ok (.iload_n 1, 1) := by decide +kernel
theorem dX10_otherEnd_22 : decode cX10_otherEnd 22 = .ok (.iaload, 1) := by decide +kernel
theorem dX10_otherEnd_23 : decode cX10_otherEnd 23 = .ok (.iload_n 2, 1) := by decide +kernel
theorem dX10_otherEnd_24 : decode cX10_otherEnd 24 = .ok (.if_icmp .ne 12, 3) := by decide +kernel
theorem dX10_otherEnd_27 : decode cX10_otherEnd 27 = .ok (.aload_n 0, 1) := by decide +kernel
theorem dX10_otherEnd_28 : decode cX10_otherEnd 28 = .ok (.getfield 9, 3) := by decide +kernel
theorem dX10_otherEnd_31 : decode cX10_otherEnd 31 = .ok (.iload_n 1, 1) := by decide +kernel
theorem dX10_otherEnd_32 : decode cX10_otherEnd 32 = .ok (.iaload, 1) := by decide +kernel
theorem dX10_otherEnd_33 : decode cX10_otherEnd 33 = .ok (.goto 4, 3) := by decide +kernel
theorem dX10_otherEnd_36 : decode cX10_otherEnd 36 = .ok (.iconst (-1), 1) := by decide +kernel
theorem dX10_otherEnd_37 : decode cX10_otherEnd 37 = .ok (.ireturn, 1) := by decide +kernel
abbrev rm_X10_otherEnd : Room := { frames := 0, cells := 0, slots := 0, locals := 0 }
set_option maxRecDepth 100000 in
set_option maxHeartbeats 4000000 in
theorem ct_X10_otherEnd {w : Wd} {l : Launch} {a1 : Int} {a2 : Int} {σ : St} {y : Int} (ia1 : InI a1) (ia2 : InI a2) (h : m_X10_otherEnd a1 a2 σ = some y) : Ct w l yX10_otherEnd (Cond.code yX10_otherEnd cX10_otherEnd 3 (some .int) :: TB) rm_X10_otherEnd [rv w 1, iv a1, iv a2] σ (some (iv y)) (InI y) σ := by
  refine Ct.of2 [some (rv w 1), some (iv a1), some (iv a2)] 0 rfl pn_RX10 (Nat.le_of_ble_eq_true rfl) ?_
  intro p e s m args below meth c C hr hlk
  unfold m_X10_otherEnd at h
  refine g_aload_n C dX10_otherEnd_0 rfl ?_
  refine g_getR (j := 0) C dX10_otherEnd_1 rfl (Nat.le_of_ble_eq_true rfl) (Nat.le_of_ble_eq_true rfl) fl_10_9 rfl rfl (r := 2) rfl ?_
  refine g_iload_n C dX10_otherEnd_4 rfl ?_
  obtain ⟨x1, qx1, h⟩ := bnd h
  refine g_iald C dX10_otherEnd_5 rfl rfl qx1 ia1 (fun ix1 => ?_)
  refine g_iload_n C dX10_otherEnd_6 rfl ?_
  refine g_icmp_ne C dX10_otherEnd_7 ix1 ia2 rfl (tgt := 17) (fun c2 => ?_) (fun c2 => ?_)
  · have h := ifF c2 h
    refine g_aload_n C dX10_otherEnd_17 rfl ?_
    refine g_getR (j := 1) C dX10_otherEnd_18 rfl (Nat.le_of_ble_eq_true rfl) (Nat.le_of_ble_eq_true rfl) fl_10_15 rfl rfl (r := 3) rfl ?_
    refine g_iload_n C dX10_otherEnd_21 rfl ?_
    obtain ⟨x3, qx3, h⟩ := bnd h
    refine g_iald C dX10_otherEnd_22 rfl rfl qx3 ia1 (fun ix3 => ?_)
    refine g_iload_n C dX10_otherEnd_23 rfl ?_
    refine g_icmp_ne C dX10_otherEnd_24 ix3 ia2 rfl (tgt := 36) (fun c4 => ?_) (fun c4 => ?_)
    · have h := ifF c4 h
      refine g_iconst C dX10_otherEnd_36 ?_
      exact g_iretU C dX10_otherEnd_37 hr hlk h (by decide)
    · have h := ifT c4 h
      refine g_aload_n C dX10_otherEnd_27 rfl ?_
      refine g_getR (j := 0) C dX10_otherEnd_28 rfl (Nat.le_of_ble_eq_true rfl) (Nat.le_of_ble_eq_true rfl) fl_10_9 rfl rfl (r := 2) rfl ?_
      refine g_iload_n C dX10_otherEnd_31 rfl ?_
      obtain ⟨x5, qx5, h⟩ := bnd h
      refine g_iald C dX10_otherEnd_32 rfl rfl qx5 ia1 (fun ix5 => ?_)
      refine g_goto C dX10_otherEnd_33 rfl (tgt := 37) ?_
      exact g_iretU C dX10_otherEnd_37 hr hlk h ix5
  · have h := ifT c2 h
    refine g_aload_n C dX10_otherEnd_10 rfl ?_
    refine g_getR (j := 1) C dX10_otherEnd_11 rfl (Nat.le_of_ble_eq_true rfl) (Nat.le_of_ble_eq_true rfl) fl_10_15 rfl rfl (r := 3) rfl ?_
    refine g_iload_n C dX10_otherEnd_14 rfl ?_
    obtain ⟨x6, qx6, h⟩ := bnd h
    refine g_iald C dX10_otherEnd_15 rfl rfl qx6 ia1 (fun ix6 => ?_)
    exact g_iretU C dX10_otherEnd_16 hr hlk h ix6
theorem dX10_lengthBetween_0 : decode cX10_lengthBetween 0 = .ok (.iload_n 1, 1) := by decide +kernel
theorem dX10_lengthBetween_1 : decode cX10_lengthBetween 1 = .ok (.ifCond .lt 27, 3) := by decide +kernel
theorem dX10_lengthBetween_4 : decode cX10_lengthBetween 4 = .ok (.iload_n 1, 1) := by decide +kernel
theorem dX10_lengthBetween_5 : decode cX10_lengthBetween 5 = .ok (.aload_n 0, 1) := by decide +kernel
theorem dX10_lengthBetween_6 : decode cX10_lengthBetween 6 = .ok (.getfield 26, 3) := by decide +kernel
theorem dX10_lengthBetween_9 : decode cX10_lengthBetween 9 = .ok (.if_icmp .ge 19, 3) := by decide +kernel
theorem dX10_lengthBetween_12 : decode cX10_lengthBetween 12 = .ok (.iload_n 2, 1) := by decide +kernel
theorem dX10_lengthBetween_13 : decode cX10_lengthBetween 13 = .ok (.ifCond .lt 15, 3) := by decide +kernel
theorem dX10_lengthBetween_16 : decode cX10_lengthBetween 16 = .ok (.iload_n 2, 1) := by decide +kernel
theorem dX10_lengthBetween_17 : decode cX10_lengthBetween 17 = .ok (.aload_n 0, 1) := by decide +kernel
theorem dX10_lengthBetween_18 : decode cX10_lengthBetween 18 = .ok (.getfield 26, 3) := by decide +kernel
theorem dX10_lengthBetween_21 : decode cX10_lengthBetween 21 = .ok (.if_icmp .ge 7, 3) := by decide +kernel
theorem dX10_lengthBetween_24 : decode cX10_lengthBetween 24 = .ok (.iconst 1, 1) := by decide +kernel
theorem dX10_lengthBetween_25 : decode cX10_lengthBetween 25 = .ok (.goto 4, 3) := by decide +kernel
theorem dX10_lengthBetween_28 : decode cX10_lengthBetween 28 = .ok (.iconst 0, 1) := by decide +kernel
theorem dX10_lengthBetween_29 : decode cX10_lengthBetween 29 = .ok (.istore_n 3, 1) := by decide +kernel
theorem dX10_lengthBetween_30 : decode cX10_lengthBetween 30 = .ok (.iload_n 3, 1) := by decide +kernel
theorem dX10_lengthBetween_31 : decode cX10_lengthBetween 31 = .ok (.ifCond .eq 14, 3) := by decide +kernel
theorem dX10_lengthBetween_34 : decode cX10_lengthBetween 34 = .ok (.aload_n 0, 1) := by decide +kernel
theorem dX10_lengthBetween_35 : decode cX10_lengthBetween 35 = .ok (.getfield 23, 3) := by decide +kernel
theorem dX10_lengthBetween_38 : decode cX10_lengthBetween 38 = .ok (.iload_n 1, 1) := by decide +kernel
theorem dX10_lengthBetween_39 : decode cX10_lengthBetween 39 = .ok (.aaload, 1) := by decide +kernel
theorem dX10_lengthBetween_40 : decode cX10_lengthBetween 40 = .ok (.iload_n 2, 1) := by decide +kernel
theorem dX10_lengthBetween_41 : decode cX10_lengthBetween 41 = .ok (.iaload, 1) := by decide +kernel
theorem dX10_lengthBetween_42 : decode cX10_lengthBetween 42 = .ok (.goto 4, 3) := by decide +kernel
theorem dX10_lengthBetween_45 : decode cX10_lengthBetween 45 = .ok (.iconst (-1), 1) := by decide +kernel
theorem dX10_lengthBetween_46 : decode cX10_lengthBetween 46 = .ok (.ireturn, 1) := by decide +kernel
abbrev rm_X10_lengthBetween : Room := { frames := 0, cells := 0, slots := 0, locals := 0 }
set_option maxRecDepth 100000 in
set_option maxHeartbeats 4000000 in
theorem ct_X10_lengthBetween {w : Wd} {l : Launch} {a1 : Int} {a2 : Int} {σ : St} {y : Int} (ia1 : InI a1) (ia2 : InI a2) (h : m_X10_lengthBetween a1 a2 σ = some y) : Ct w l yX10_lengthBetween (Cond.code yX10_lengthBetween cX10_lengthBetween 4 (some .int) :: TB) rm_X10_lengthBetween [rv w 1, iv a1, iv a2] σ (some (iv y)) (InI y) σ := by
  refine Ct.of2 [some (rv w 1), some (iv a1), some (iv a2), none] 1 rfl pn_RX10 (Nat.le_of_ble_eq_true rfl) ?_
  intro p e s m args below meth c C hr hlk
  unfold m_X10_lengthBetween at h
  refine g_iload_n C dX10_lengthBetween_0 rfl ?_
  have hJ28_11 : m_X10_lengthBetween_J28 = some y → GM w p l e rm_X10_lengthBetween s m args below meth c (some (iv y)) (InI y) σ 4 28 [some (rv w 1), some (iv a1), some (iv a2), none] [] σ := by
    intro h
    unfold m_X10_lengthBetween_J28 at h
    refine g_iconst C dX10_lengthBetween_28 ?_
    refine g_istore_n (L1 := [some (rv w 1), some (iv a1), some (iv a2), some (iv 0)]) C dX10_lengthBetween_29 rfl (Nat.le_of_ble_eq_true rfl) rfl ?_
    refine g_iload_n C dX10_lengthBetween_30 rfl ?_
    refine g_if_eq C dX10_lengthBetween_31 (by decide) rfl (tgt := 45) (fun c10 => ?_) (fun c10 => absurd c10 (by decide))
    refine g_iconst C dX10_lengthBetween_45 ?_
    exact g_iretU C dX10_lengthBetween_46 hr hlk h (by decide)
  refine g_if_lt C dX10_lengthBetween_1 ia1 rfl (tgt := 28) (fun c1 => ?_) (fun c1 => ?_)
  · have h := ifT c1 h
    exact hJ28_11  h
  · have h := ifF c1 h
    refine g_iload_n C dX10_lengthBetween_4 rfl ?_
    refine g_aload_n C dX10_lengthBetween_5 rfl ?_
    refine g_getI (j := 4) C dX10_lengthBetween_6 rfl (Nat.le_of_ble_eq_true rfl) (Nat.le_of_ble_eq_true rfl) fl_10_26 rfl rfl (fun i2 => ?_)
    refine g_icmp_ge C dX10_lengthBetween_9 ia1 i2 rfl (tgt := 28) (fun c3 => ?_) (fun c3 => ?_)
    · have h := ifT c3 h
      exact hJ28_11  h
    · have h := ifF c3 h
      refine g_iload_n C dX10_lengthBetween_12 rfl ?_
      refine g_if_lt C dX10_lengthBetween_13 ia2 rfl (tgt := 28) (fun c4 => ?_) (fun c4 => ?_)
      · have h := ifT c4 h
        exact hJ28_11  h
      · have h := ifF c4 h
        refine g_iload_n C dX10_lengthBetween_16 rfl ?_
        refine g_aload_n C dX10_lengthBetween_17 rfl ?_
        refine g_getI (j := 4) C dX10_lengthBetween_18 rfl (Nat.le_of_ble_eq_true rfl) (Nat.le_of_ble_eq_true rfl) fl_10_26 rfl rfl (fun i5 => ?_)
        refine g_icmp_ge C dX10_lengthBetween_21 ia2 i5 rfl (tgt := 28) (fun c6 => ?_) (fun c6 => ?_)
        · have h := ifT c6 h
          exact hJ28_11  h
        · have h := ifF c6 h
          refine g_iconst C dX10_lengthBetween_24 ?_
          refine g_goto C dX10_lengthBetween_25 rfl (tgt := 29) ?_
          refine g_istore_n (L1 := [some (rv w 1), some (iv a1), some (iv a2), some (iv 1)]) C dX10_lengthBetween_29 rfl (Nat.le_of_ble_eq_true rfl) rfl ?_
          refine g_iload_n C dX10_lengthBetween_30 rfl ?_
          refine g_if_eq C dX10_lengthBetween_31 (by decide) rfl (tgt := 45) (fun c7 => absurd c7 (by decide)) (fun c7 => ?_)
          refine g_aload_n C dX10_lengthBetween_34 rfl ?_
          refine g_getR (j := 3) C dX10_lengthBetween_35 rfl (Nat.le_of_ble_eq_true rfl) (Nat.le_of_ble_eq_true rfl) fl_10_23 rfl rfl (r := 5) rfl ?_
          refine g_iload_n C dX10_lengthBetween_38 rfl ?_
          obtain ⟨k8, qk8, h⟩ := bnd h
          refine g_aalI C dX10_lengthBetween_39 rfl rfl qk8 ia1 ?_
          refine g_iload_n C dX10_lengthBetween_40 rfl ?_
          obtain ⟨x9, qx9, h⟩ := bnd h
          refine g_iald C dX10_lengthBetween_41 (rrB_5 qk8).1 (rrB_5 qk8).2 qx9 ia2 (fun ix9 => ?_)
          refine g_goto C dX10_lengthBetween_42 rfl (tgt := 46) ?_
          exact g_iretU C dX10_lengthBetween_46 hr hlk h ix9
theorem dX10_nextSpot_0 : decode cX10_nextSpot 0 = .ok (.iconst (-1), 1) := by decide +kernel
theorem dX10_nextSpot_1 : decode cX10_nextSpot 1 = .ok (.istore_n 3, 1) := by decide +kernel
theorem dX10_nextSpot_2 : decode cX10_nextSpot 2 = .ok (.iconst 0, 1) := by decide +kernel
theorem dX10_nextSpot_3 : decode cX10_nextSpot 3 = .ok (.istore 4, 2) := by decide +kernel
theorem dX10_nextSpot_5 : decode cX10_nextSpot 5 = .ok (.iload 4, 2) := by decide +kernel
theorem dX10_nextSpot_7 : decode cX10_nextSpot 7 = .ok (.aload_n 0, 1) := by decide +kernel
theorem dX10_nextSpot_8 : decode cX10_nextSpot 8 = .ok (.getfield 30, 3) := by decide +kernel
theorem dX10_nextSpot_11 : decode cX10_nextSpot 11 = .ok (.if_icmp .ge 66, 3) := by decide +kernel
theorem dX10_nextSpot_14 : decode cX10_nextSpot 14 = .ok (.aload_n 0, 1) := by decide +kernel
theorem dX10_nextSpot_15 : decode cX10_nextSpot 15 = .ok (.iload 4, 2) := by decide +kernel
theorem dX10_nextSpot_17 : decode cX10_nextSpot 17 = .ok (.iload_n 1, 1) := by decide +kernel
theorem dX10_nextSpot_18 : decode cX10_nextSpot 18 = .ok (.invokevirtual 41, 3) := by decide +kernel
theorem dX10_nextSpot_21 : decode cX10_nextSpot 21 = .ok (.istore 5, 2) := by decide +kernel
theorem dX10_nextSpot_23 : decode cX10_nextSpot 23 = .ok (.aload_n 0, 1) := by decide +kernel
theorem dX10_nextSpot_24 : decode cX10_nextSpot 24 = .ok (.iload 5, 2) := by decide +kernel
theorem dX10_nextSpot_26 : decode cX10_nextSpot 26 = .ok (.iload_n 2, 1) := by decide +kernel
theorem dX10_nextSpot_27 : decode cX10_nextSpot 27 = .ok (.invokevirtual 45, 3) := by decide +kernel
theorem dX10_nextSpot_30 : decode cX10_nextSpot 30 = .ok (.istore 6, 2) := by decide +kernel
theorem dX10_nextSpot_32 : decode cX10_nextSpot 32 = .ok (.iload 6, 2) := by decide +kernel
theorem dX10_nextSpot_34 : decode cX10_nextSpot 34 = .ok (.iconst (-1), 1) := by decide +kernel
theorem dX10_nextSpot_35 : decode cX10_nextSpot 35 = .ok (.if_icmp .eq 36, 3) := by decide +kernel
theorem dX10_nextSpot_38 : decode cX10_nextSpot 38 = .ok (.aload_n 0, 1) := by decide +kernel
theorem dX10_nextSpot_39 : decode cX10_nextSpot 39 = .ok (.getfield 18, 3) := by decide +kernel
theorem dX10_nextSpot_42 : decode cX10_nextSpot 42 = .ok (.iload 4, 2) := by decide +kernel
theorem dX10_nextSpot_44 : decode cX10_nextSpot 44 = .ok (.iaload, 1) := by decide +kernel
theorem dX10_nextSpot_45 : decode cX10_nextSpot 45 = .ok (.iload 6, 2) := by decide +kernel
theorem dX10_nextSpot_47 : decode cX10_nextSpot 47 = .ok (.iadd, 1) := by decide +kernel
theorem dX10_nextSpot_48 : decode cX10_nextSpot 48 = .ok (.aload_n 0, 1) := by decide +kernel
theorem dX10_nextSpot_49 : decode cX10_nextSpot 49 = .ok (.iload_n 1, 1) := by decide +kernel
theorem dX10_nextSpot_50 : decode cX10_nextSpot 50 = .ok (.iload_n 2, 1) := by decide +kernel
theorem dX10_nextSpot_51 : decode cX10_nextSpot 51 = .ok (.invokevirtual 45, 3) := by decide +kernel
theorem dX10_nextSpot_54 : decode cX10_nextSpot 54 = .ok (.if_icmp .ne 17, 3) := by decide +kernel
theorem dX10_nextSpot_57 : decode cX10_nextSpot 57 = .ok (.iload_n 3, 1) := by decide +kernel
theorem dX10_nextSpot_58 : decode cX10_nextSpot 58 = .ok (.iconst (-1), 1) := by decide +kernel
theorem dX10_nextSpot_59 : decode cX10_nextSpot 59 = .ok (.if_icmp .eq 9, 3) := by decide +kernel
theorem dX10_nextSpot_62 : decode cX10_nextSpot 62 = .ok (.iload 5, 2) := by decide +kernel
theorem dX10_nextSpot_64 : decode cX10_nextSpot 64 = .ok (.iload_n 3, 1) := by decide +kernel
theorem dX10_nextSpot_65 : decode cX10_nextSpot 65 = .ok (.if_icmp .ge 6, 3) := by decide +kernel
theorem dX10_nextSpot_68 : decode cX10_nextSpot 68 = .ok (.iload 5, 2) := by decide +kernel
theorem dX10_nextSpot_70 : decode cX10_nextSpot 70 = .ok (.istore_n 3, 1) := by decide +kernel
theorem dX10_nextSpot_71 : decode cX10_nextSpot 71 = .ok (.iinc 4 1, 3) := by decide +kernel
theorem dX10_nextSpot_74 : decode cX10_nextSpot 74 = .ok (.goto (-69), 3) := by decide +kernel
theorem dX10_nextSpot_77 : decode cX10_nextSpot 77 = .ok (.iload_n 3, 1) := by decide +kernel
theorem dX10_nextSpot_78 : decode cX10_nextSpot 78 = .ok (.ireturn, 1) := by decide +kernel
abbrev rm_X10_nextSpot : Room := { frames := 1, cells := 0, slots := 0, locals := 23 }
set_option maxRecDepth 100000 in
set_option maxHeartbeats 4000000 in
theorem ct_X10_nextSpot {w : Wd} {l : Launch} {a1 : Int} {a2 : Int} {σ : St} {y : Int} (ia1 : InI a1) (ia2 : InI a2) (h : m_X10_nextSpot a1 a2 σ = some y) : Ct w l yX10_nextSpot (Cond.code yX10_nextSpot cX10_nextSpot 7 (some .int) :: TB) rm_X10_nextSpot [rv w 1, iv a1, iv a2] σ (some (iv y)) (InI y) σ := by
  refine Ct.of2 [some (rv w 1), some (iv a1), some (iv a2), none, none, none, none] 4 rfl pn_RX10 (Nat.le_of_ble_eq_true rfl) ?_
  intro p e s m args below meth c C hr hlk
  unfold m_X10_nextSpot at h
  refine g_iconst C dX10_nextSpot_0 ?_
  refine g_istore_n (L1 := [some (rv w 1), some (iv a1), some (iv a2), some (iv (-1)), none, none, none]) C dX10_nextSpot_1 rfl (Nat.le_of_ble_eq_true rfl) rfl ?_
  refine g_iconst C dX10_nextSpot_2 ?_
  refine g_istore (L1 := [some (rv w 1), some (iv a1), some (iv a2), some (iv (-1)), some (iv 0), none, none]) C dX10_nextSpot_3 rfl (Nat.le_of_ble_eq_true rfl) rfl ?_
  obtain ⟨b1, hb1, hF1⟩ := bnd h
  have hX1 : ∀ (x14 : Int) , InI x14 → x14 = b1 → GM w p l e rm_X10_nextSpot s m args below meth c (some (iv y)) (InI y) σ 7 77 [none, none, none, some (iv x14), none, none, none] [] σ := by
    intro x14 ix14 q
    subst q
    have h := hF1
    refine g_iload_n C dX10_nextSpot_77 rfl ?_
    exact g_iretU C dX10_nextSpot_78 hr hlk h ix14
  have hL1 : ∀ (n : Nat) (x2 : Int) (x3 : Int) , InI x2 → InI x3 → lpN (fun a => m_X10_nextSpot_L5 σ a1 a2 a.1 a.2) n (x2, x3) = some b1 → GM w p l e rm_X10_nextSpot s m args below meth c (some (iv y)) (InI y) σ 7 5 [some (rv w 1), some (iv a1), some (iv a2), some (iv x2), some (iv x3), none, none] [] σ := by
    intro n
    induction n with
    | zero => intro x2 x3 ix2 ix3 q; cases q
    | succ n ih1 =>
      intro x2 x3 ix2 ix3 q
      obtain ⟨o1, h, hk1⟩ := lp_step q
      replace h : m_X10_nextSpot_L5 σ a1 a2 x2 x3 = some o1 := h
      unfold m_X10_nextSpot_L5 at h
      refine g_iload C dX10_nextSpot_5 rfl ?_
      refine g_aload_n C dX10_nextSpot_7 rfl ?_
      refine g_getI (j := 5) C dX10_nextSpot_8 rfl (Nat.le_of_ble_eq_true rfl) (Nat.le_of_ble_eq_true rfl) fl_10_30 rfl rfl (fun i4 => ?_)
      refine g_icmp_ge C dX10_nextSpot_11 ix3 i4 rfl (tgt := 77) (fun c5 => ?_) (fun c5 => ?_)
      · have h := ifT c5 h
        refine g_mask [false, false, false, true, false, true, true] ?_
        obtain rfl := Option.some.inj h
        exact hX1 x2 ix2 (lpR hk1).symm
      · have h := ifF c5 h
        refine g_aload_n C dX10_nextSpot_14 rfl ?_
        refine g_iload C dX10_nextSpot_15 rfl ?_
        refine g_iload_n C dX10_nextSpot_17 rfl ?_
        obtain ⟨x6, qx6, h⟩ := bnd h
        refine g_callV1 (As := [iv x3, iv a1]) C dX10_nextSpot_18 mi_X10_otherEnd ml_10_41 (ct_X10_otherEnd ix3 ia1 qx6) rfl rfl ⟨rfl, rfl⟩ ⟨Nat.le_of_ble_eq_true rfl, Nat.le_of_ble_eq_true rfl⟩ ⟨Nat.zero_le _, Nat.zero_le _⟩ rfl (Nat.le_of_ble_eq_true rfl) (fun ix6 => ?_)
        refine g_istore (L1 := [some (rv w 1), some (iv a1), some (iv a2), some (iv x2), some (iv x3), some (iv x6), none]) C dX10_nextSpot_21 rfl (Nat.le_of_ble_eq_true rfl) rfl ?_
        refine g_aload_n C dX10_nextSpot_23 rfl ?_
        refine g_iload C dX10_nextSpot_24 rfl ?_
        refine g_iload_n C dX10_nextSpot_26 rfl ?_
        obtain ⟨x7, qx7, h⟩ := bnd h
        refine g_callV1 (As := [iv x6, iv a2]) C dX10_nextSpot_27 mi_X10_lengthBetween ml_10_45 (ct_X10_lengthBetween ix6 ia2 qx7) rfl rfl ⟨rfl, rfl⟩ ⟨Nat.le_of_ble_eq_true rfl, Nat.le_of_ble_eq_true rfl⟩ ⟨Nat.zero_le _, Nat.zero_le _⟩ rfl (Nat.le_of_ble_eq_true rfl) (fun ix7 => ?_)
        refine g_istore (L1 := [some (rv w 1), some (iv a1), some (iv a2), some (iv x2), some (iv x3), some (iv x6), some (iv x7)]) C dX10_nextSpot_30 rfl (Nat.le_of_ble_eq_true rfl) rfl ?_
        refine g_iload C dX10_nextSpot_32 rfl ?_
        refine g_iconst C dX10_nextSpot_34 ?_
        refine g_icmp_eq C dX10_nextSpot_35 ix7 (by decide) rfl (tgt := 71) (fun c8 => ?_) (fun c8 => ?_)
        · have h := ifT c8 h
          refine g_iinc (L1 := [some (rv w 1), some (iv a1), some (iv a2), some (iv x2), some (iv (wr (x3 + 1))), some (iv x6), some (iv x7)]) C dX10_nextSpot_71 rfl rfl (Nat.le_of_ble_eq_true rfl) rfl ?_
          refine g_goto C dX10_nextSpot_74 rfl (tgt := 5) ?_
          refine g_mask [true, true, true, true, true, false, false] ?_
          obtain rfl := Option.some.inj h
          exact ih1 _ _ ix2 (iwr _) (lpL hk1)
        · have h := ifF c8 h
          refine g_aload_n C dX10_nextSpot_38 rfl ?_
          refine g_getR (j := 2) C dX10_nextSpot_39 rfl (Nat.le_of_ble_eq_true rfl) (Nat.le_of_ble_eq_true rfl) fl_10_18 rfl rfl (r := 4) rfl ?_
          refine g_iload C dX10_nextSpot_42 rfl ?_
          obtain ⟨x9, qx9, h⟩ := bnd h
          refine g_iald C dX10_nextSpot_44 rfl rfl qx9 ix3 (fun ix9 => ?_)
          refine g_iload C dX10_nextSpot_45 rfl ?_
          refine g_iadd C dX10_nextSpot_47 ?_
          refine g_aload_n C dX10_nextSpot_48 rfl ?_
          refine g_iload_n C dX10_nextSpot_49 rfl ?_
          refine g_iload_n C dX10_nextSpot_50 rfl ?_
          obtain ⟨x10, qx10, h⟩ := bnd h
          refine g_callV1 (As := [iv a1, iv a2]) C dX10_nextSpot_51 mi_X10_lengthBetween ml_10_45 (ct_X10_lengthBetween ia1 ia2 qx10) rfl rfl ⟨rfl, rfl⟩ ⟨Nat.le_of_ble_eq_true rfl, Nat.le_of_ble_eq_true rfl⟩ ⟨Nat.zero_le _, Nat.zero_le _⟩ rfl (Nat.le_of_ble_eq_true rfl) (fun ix10 => ?_)
          refine g_icmp_ne C dX10_nextSpot_54 (iwr _) ix10 rfl (tgt := 71) (fun c11 => ?_) (fun c11 => ?_)
          · have h := ifF c11 h
            refine g_iinc (L1 := [some (rv w 1), some (iv a1), some (iv a2), some (iv x2), some (iv (wr (x3 + 1))), some (iv x6), some (iv x7)]) C dX10_nextSpot_71 rfl rfl (Nat.le_of_ble_eq_true rfl) rfl ?_
            refine g_goto C dX10_nextSpot_74 rfl (tgt := 5) ?_
            refine g_mask [true, true, true, true, true, false, false] ?_
            obtain rfl := Option.some.inj h
            exact ih1 _ _ ix2 (iwr _) (lpL hk1)
          · have h := ifT c11 h
            refine g_iload_n C dX10_nextSpot_57 rfl ?_
            refine g_iconst C dX10_nextSpot_58 ?_
            refine g_icmp_eq C dX10_nextSpot_59 ix2 (by decide) rfl (tgt := 68) (fun c12 => ?_) (fun c12 => ?_)
            · have h := ifT c12 h
              refine g_iload C dX10_nextSpot_68 rfl ?_
              refine g_istore_n (L1 := [some (rv w 1), some (iv a1), some (iv a2), some (iv x6), some (iv x3), some (iv x6), some (iv x7)]) C dX10_nextSpot_70 rfl (Nat.le_of_ble_eq_true rfl) rfl ?_
              refine g_iinc (L1 := [some (rv w 1), some (iv a1), some (iv a2), some (iv x6), some (iv (wr (x3 + 1))), some (iv x6), some (iv x7)]) C dX10_nextSpot_71 rfl rfl (Nat.le_of_ble_eq_true rfl) rfl ?_
              refine g_goto C dX10_nextSpot_74 rfl (tgt := 5) ?_
              refine g_mask [true, true, true, true, true, false, false] ?_
              obtain rfl := Option.some.inj h
              exact ih1 _ _ ix6 (iwr _) (lpL hk1)
            · have h := ifF c12 h
              refine g_iload C dX10_nextSpot_62 rfl ?_
              refine g_iload_n C dX10_nextSpot_64 rfl ?_
              refine g_icmp_ge C dX10_nextSpot_65 ix6 ix2 rfl (tgt := 71) (fun c13 => ?_) (fun c13 => ?_)
              · have h := ifT c13 h
                refine g_iinc (L1 := [some (rv w 1), some (iv a1), some (iv a2), some (iv x2), some (iv (wr (x3 + 1))), some (iv x6), some (iv x7)]) C dX10_nextSpot_71 rfl rfl (Nat.le_of_ble_eq_true rfl) rfl ?_
                refine g_goto C dX10_nextSpot_74 rfl (tgt := 5) ?_
                refine g_mask [true, true, true, true, true, false, false] ?_
                obtain rfl := Option.some.inj h
                exact ih1 _ _ ix2 (iwr _) (lpL hk1)
              · have h := ifF c13 h
                refine g_iload C dX10_nextSpot_68 rfl ?_
                refine g_istore_n (L1 := [some (rv w 1), some (iv a1), some (iv a2), some (iv x6), some (iv x3), some (iv x6), some (iv x7)]) C dX10_nextSpot_70 rfl (Nat.le_of_ble_eq_true rfl) rfl ?_
                refine g_iinc (L1 := [some (rv w 1), some (iv a1), some (iv a2), some (iv x6), some (iv (wr (x3 + 1))), some (iv x6), some (iv x7)]) C dX10_nextSpot_71 rfl rfl (Nat.le_of_ble_eq_true rfl) rfl ?_
                refine g_goto C dX10_nextSpot_74 rfl (tgt := 5) ?_
                refine g_mask [true, true, true, true, true, false, false] ?_
                obtain rfl := Option.some.inj h
                exact ih1 _ _ ix6 (iwr _) (lpL hk1)
  exact hL1 FU _ _ (by decide) (by decide) hb1
theorem dX10_hasSpot_0 : decode cX10_hasSpot 0 = .ok (.iload_n 1, 1) := by decide +kernel
theorem dX10_hasSpot_1 : decode cX10_hasSpot 1 = .ok (.ifCond .lt 21, 3) := by decide +kernel
theorem dX10_hasSpot_4 : decode cX10_hasSpot 4 = .ok (.iload_n 1, 1) := by decide +kernel
theorem dX10_hasSpot_5 : decode cX10_hasSpot 5 = .ok (.aload_n 0, 1) := by decide +kernel
theorem dX10_hasSpot_6 : decode cX10_hasSpot 6 = .ok (.getfield 26, 3) := by decide +kernel
theorem dX10_hasSpot_9 : decode cX10_hasSpot 9 = .ok (.if_icmp .ge 13, 3) := by decide +kernel
theorem dX10_hasSpot_12 : decode cX10_hasSpot 12 = .ok (.iload_n 1, 1) := by decide +kernel
theorem dX10_hasSpot_13 : decode cX10_hasSpot 13 = .ok (.bipush 10, 2) := by decide +kernel
theorem dX10_hasSpot_15 : decode cX10_hasSpot 15 = .ok (.if_icmp .ge 7, 3) := by decide +kernel
theorem dX10_hasSpot_18 : decode cX10_hasSpot 18 = .ok (.iconst 1, 1) := by decide +kernel
theorem dX10_hasSpot_19 : decode cX10_hasSpot 19 = .ok (.goto 4, 3) := by decide +kernel
theorem dX10_hasSpot_22 : decode cX10_hasSpot 22 = .ok (.iconst 0, 1) := by decide +kernel
theorem dX10_hasSpot_23 : decode cX10_hasSpot 23 = .ok (.ireturn, 1) := by decide +kernel
abbrev rm_X10_hasSpot : Room := { frames := 0, cells := 0, slots := 0, locals := 0 }
set_option maxRecDepth 100000 in
set_option maxHeartbeats 4000000 in
theorem ct_X10_hasSpot {w : Wd} {l : Launch} {a1 : Int} {σ : St} {y : Int} (ia1 : InI a1) (h : m_X10_hasSpot a1 σ = some y) : Ct w l yX10_hasSpot (Cond.code yX10_hasSpot cX10_hasSpot 2 (some .boolean) :: TB) rm_X10_hasSpot [rv w 1, iv a1] σ (some (iv y)) (InZ y) σ := by
  refine Ct.of2 [some (rv w 1), some (iv a1)] 0 rfl pn_RX10 (Nat.le_of_ble_eq_true rfl) ?_
  intro p e s m args below meth c C hr hlk
  unfold m_X10_hasSpot at h
  refine g_iload_n C dX10_hasSpot_0 rfl ?_
  refine g_if_lt C dX10_hasSpot_1 ia1 rfl (tgt := 22) (fun c1 => ?_) (fun c1 => ?_)
  · have h := ifT c1 h
    refine g_iconst C dX10_hasSpot_22 ?_
    exact g_zretU C dX10_hasSpot_23 hr hlk h (Or.inl rfl)
  · have h := ifF c1 h
    refine g_iload_n C dX10_hasSpot_4 rfl ?_
    refine g_aload_n C dX10_hasSpot_5 rfl ?_
    refine g_getI (j := 4) C dX10_hasSpot_6 rfl (Nat.le_of_ble_eq_true rfl) (Nat.le_of_ble_eq_true rfl) fl_10_26 rfl rfl (fun i2 => ?_)
    refine g_icmp_ge C dX10_hasSpot_9 ia1 i2 rfl (tgt := 22) (fun c3 => ?_) (fun c3 => ?_)
    · have h := ifT c3 h
      refine g_iconst C dX10_hasSpot_22 ?_
      exact g_zretU C dX10_hasSpot_23 hr hlk h (Or.inl rfl)
    · have h := ifF c3 h
      refine g_iload_n C dX10_hasSpot_12 rfl ?_
      refine g_bipush C dX10_hasSpot_13 rfl ?_
      refine g_icmp_ge C dX10_hasSpot_15 ia1 (by decide) rfl (tgt := 22) (fun c4 => ?_) (fun c4 => ?_)
      · have h := ifT c4 h
        refine g_iconst C dX10_hasSpot_22 ?_
        exact g_zretU C dX10_hasSpot_23 hr hlk h (Or.inl rfl)
      · have h := ifF c4 h
        refine g_iconst C dX10_hasSpot_18 ?_
        refine g_goto C dX10_hasSpot_19 rfl (tgt := 23) ?_
        exact g_zretU C dX10_hasSpot_23 hr hlk h (Or.inr rfl)
theorem dX9_add_0 : decode cX9_add 0 = .ok (.bipush 24, 2) := by decide +kernel
theorem dX9_add_2 : decode cX9_add 2 = .ok (.istore_n 2, 1) := by decide +kernel
theorem dX9_add_3 : decode cX9_add 3 = .ok (.iload_n 2, 1) := by decide +kernel
theorem dX9_add_4 : decode cX9_add 4 = .ok (.ifCond .lt 45, 3) := by decide +kernel
theorem dX9_add_7 : decode cX9_add 7 = .ok (.aload_n 0, 1) := by decide +kernel
theorem dX9_add_8 : decode cX9_add 8 = .ok (.getfield 28, 3) := by decide +kernel
theorem dX9_add_11 : decode cX9_add 11 = .ok (.sipush 2000, 3) := by decide +kernel
theorem dX9_add_14 : decode cX9_add 14 = .ok (.if_icmp .ge 35, 3) := by decide +kernel
theorem dX9_add_17 : decode cX9_add 17 = .ok (.aload_n 0, 1) := by decide +kernel
theorem dX9_add_18 : decode cX9_add 18 = .ok (.getfield 25, 3) := by decide +kernel
theorem dX9_add_21 : decode cX9_add 21 = .ok (.aload_n 0, 1) := by decide +kernel
theorem dX9_add_22 : decode cX9_add 22 = .ok (.getfield 28, 3) := by decide +kernel
theorem dX9_add_25 : decode cX9_add 25 = .ok (.iload_n 1, 1) := by decide +kernel
theorem dX9_add_26 : decode cX9_add 26 = .ok (.iload_n 2, 1) := by decide +kernel
theorem dX9_add_27 : decode cX9_add 27 = .ok (.iushr, 1) := by decide +kernel
theorem dX9_add_28 : decode cX9_add 28 = .ok (.sipush 255, 3) := by decide +kernel
theorem dX9_add_31 : decode cX9_add 31 = .ok (.iand, 1) := by decide +kernel
theorem dX9_add_32 : decode cX9_add 32 = .ok (.iastore, 1) := by decide +kernel
theorem dX9_add_33 : decode cX9_add 33 = .ok (.aload_n 0, 1) := by decide +kernel
theorem dX9_add_34 : decode cX9_add 34 = .ok (.dup, 1) := by decide +kernel
theorem dX9_add_35 : decode cX9_add 35 = .ok (.getfield 28, 3) := by decide +kernel
theorem dX9_add_38 : decode cX9_add 38 = .ok (.iconst 1, 1) := by decide +kernel
theorem dX9_add_39 : decode cX9_add 39 = .ok (.iadd, 1) := by decide +kernel
theorem dX9_add_40 : decode cX9_add 40 = .ok (.putfield 28, 3) := by decide +kernel
theorem dX9_add_43 : decode cX9_add 43 = .ok (.iinc 2 (-8), 3) := by decide +kernel
theorem dX9_add_46 : decode cX9_add 46 = .ok (.goto (-43), 3) := by decide +kernel
theorem dX9_add_49 : decode cX9_add 49 = .ok (.return_, 1) := by decide +kernel
abbrev rm_X9_add : Room := { frames := 0, cells := 0, slots := 0, locals := 0 }
set_option maxRecDepth 100000 in
set_option maxHeartbeats 4000000 in
theorem ct_X9_add {w : Wd} {l : Launch} {a1 : Int} {σ : St} {σ' : St} (ia1 : InI a1) (h : m_X9_add a1 σ = some σ') : Ct w l yX9_add (Cond.code yX9_add cX9_add 3 none :: TB) rm_X9_add [rv w 16, iv a1] σ none True σ' := by
  refine Ct.of2 [some (rv w 16), some (iv a1), none] 1 rfl pn_RX9 (Nat.le_of_ble_eq_true rfl) ?_
  intro p e s m args below meth c C hr hlk
  unfold m_X9_add at h
  refine g_bipush C dX9_add_0 rfl ?_
  refine g_istore_n (L1 := [some (rv w 16), some (iv a1), some (iv 24)]) C dX9_add_2 rfl (Nat.le_of_ble_eq_true rfl) rfl ?_
  obtain ⟨b1, hb1, hF1⟩ := bnd h
  have hX1 : ∀ (σ11 : St) , σ11 = b1 → GM w p l e rm_X9_add s m args below meth c none True σ' 3 49 [none, none, none] [] σ11 := by
    intro σ11 q
    subst q
    have h := hF1
    exact g_vretP C dX9_add_49 hr hlk h
  have hL1 : ∀ (n : Nat) (x2 : Int) (σ3 : St) , InI x2 → lpN (fun a => m_X9_add_L3 a1 a.1 a.2) n (x2, σ3) = some b1 → GM w p l e rm_X9_add s m args below meth c none True σ' 3 3 [some (rv w 16), some (iv a1), some (iv x2)] [] σ3 := by
    intro n
    induction n with
    | zero => intro x2 σ3 ix2 q; cases q
    | succ n ih1 =>
      intro x2 σ3 ix2 q
      obtain ⟨o1, h, hk1⟩ := lp_step q
      replace h : m_X9_add_L3 a1 x2 σ3 = some o1 := h
      unfold m_X9_add_L3 at h
      refine g_iload_n C dX9_add_3 rfl ?_
      refine g_if_lt C dX9_add_4 ix2 rfl (tgt := 49) (fun c4 => ?_) (fun c4 => ?_)
      · have h := ifT c4 h
        refine g_mask [false, false, false] ?_
        obtain rfl := Option.some.inj h
        exact hX1 σ3 (lpR hk1).symm
      · have h := ifF c4 h
        refine g_aload_n C dX9_add_7 rfl ?_
        refine g_getI (j := 0) C dX9_add_8 rfl (Nat.le_of_ble_eq_true rfl) (Nat.le_of_ble_eq_true rfl) fl_9_28 rfl rfl (fun i5 => ?_)
        refine g_sipush C dX9_add_11 rfl ?_
        refine g_icmp_ge C dX9_add_14 i5 (by decide) rfl (tgt := 49) (fun c6 => ?_) (fun c6 => ?_)
        · have h := ifT c6 h
          refine g_mask [false, false, false] ?_
          obtain rfl := Option.some.inj h
          exact hX1 σ3 (lpR hk1).symm
        · have h := ifF c6 h
          refine g_aload_n C dX9_add_17 rfl ?_
          refine g_getR (j := 5) C dX9_add_18 rfl (Nat.le_of_ble_eq_true rfl) (Nat.le_of_ble_eq_true rfl) fl_9_25 rfl rfl (r := 21) rfl ?_
          refine g_aload_n C dX9_add_21 rfl ?_
          refine g_getI (j := 0) C dX9_add_22 rfl (Nat.le_of_ble_eq_true rfl) (Nat.le_of_ble_eq_true rfl) fl_9_28 rfl rfl (fun i7 => ?_)
          refine g_iload_n C dX9_add_25 rfl ?_
          refine g_iload_n C dX9_add_26 rfl ?_
          refine g_iushr C dX9_add_27 ?_
          refine g_sipush C dX9_add_28 rfl ?_
          refine g_iand C dX9_add_31 ?_
          obtain ⟨σ8, qσ8, h⟩ := bnd h
          refine g_iast C dX9_add_32 rfl rfl qσ8 i7 (iand _ _) ?_
          refine g_aload_n C dX9_add_33 rfl ?_
          refine g_dup C dX9_add_34 rfl ?_
          refine g_getI (j := 0) C dX9_add_35 rfl (Nat.le_of_ble_eq_true rfl) (Nat.le_of_ble_eq_true rfl) fl_9_28 rfl rfl (fun i9 => ?_)
          refine g_iconst C dX9_add_38 ?_
          refine g_iadd C dX9_add_39 ?_
          obtain ⟨σ10, qσ10, h⟩ := bnd h
          refine g_putI (j := 0) C dX9_add_40 rfl (Nat.le_of_ble_eq_true rfl) (Nat.le_of_ble_eq_true rfl) fl_9_28 rfl rfl rfl rfl qσ10 (iwr _) ?_
          refine g_iinc (L1 := [some (rv w 16), some (iv a1), some (iv (wr (x2 + (-8))))]) C dX9_add_43 rfl rfl (Nat.le_of_ble_eq_true rfl) rfl ?_
          refine g_goto C dX9_add_46 rfl (tgt := 3) ?_
          obtain rfl := Option.some.inj h
          exact ih1 _ _ (iwr _) (lpL hk1)
  exact hL1 FU _ _ (by decide) hb1
theorem dX10_addSpot_0 : decode cX10_addSpot 0 = .ok (.aload_n 0, 1) := by decide +kernel
theorem dX10_addSpot_1 : decode cX10_addSpot 1 = .ok (.getfield 26, 3) := by decide +kernel
theorem dX10_addSpot_4 : decode cX10_addSpot 4 = .ok (.bipush 10, 2) := by decide +kernel
theorem dX10_addSpot_6 : decode cX10_addSpot 6 = .ok (.if_icmp .lt 7, 3) := by decide +kernel
theorem dX10_addSpot_9 : decode cX10_addSpot 9 = .ok (.iconst (-1), 1) := by decide +kernel
theorem dX10_addSpot_10 : decode cX10_addSpot 10 = .ok (.goto 14, 3) := by decide +kernel
theorem dX10_addSpot_13 : decode cX10_addSpot 13 = .ok (.aload_n 0, 1) := by decide +kernel
theorem dX10_addSpot_14 : decode cX10_addSpot 14 = .ok (.dup, 1) := by decide +kernel
theorem dX10_addSpot_15 : decode cX10_addSpot 15 = .ok (.getfield 26, 3) := by decide +kernel
theorem dX10_addSpot_18 : decode cX10_addSpot 18 = .ok (.dup_x1, 1) := by decide +kernel
theorem dX10_addSpot_19 : decode cX10_addSpot 19 = .ok (.iconst 1, 1) := by decide +kernel
theorem dX10_addSpot_20 : decode cX10_addSpot 20 = .ok (.iadd, 1) := by decide +kernel
theorem dX10_addSpot_21 : decode cX10_addSpot 21 = .ok (.putfield 26, 3) := by decide +kernel
theorem dX10_addSpot_24 : decode cX10_addSpot 24 = .ok (.ireturn, 1) := by decide +kernel
abbrev rm_X10_addSpot : Room := { frames := 0, cells := 0, slots := 0, locals := 0 }
set_option maxRecDepth 100000 in
set_option maxHeartbeats 4000000 in
theorem ct_X10_addSpot {w : Wd} {l : Launch} {σ : St} {y : Int} {σ' : St} (h : m_X10_addSpot σ = some (y, σ')) : Ct w l yX10_addSpot (Cond.code yX10_addSpot cX10_addSpot 1 (some .int) :: TB) rm_X10_addSpot [rv w 1] σ (some (iv y)) (InI y) σ' := by
  refine Ct.of2 [some (rv w 1)] 0 rfl pn_RX10 (Nat.le_of_ble_eq_true rfl) ?_
  intro p e s m args below meth c C hr hlk
  unfold m_X10_addSpot at h
  refine g_aload_n C dX10_addSpot_0 rfl ?_
  refine g_getI (j := 4) C dX10_addSpot_1 rfl (Nat.le_of_ble_eq_true rfl) (Nat.le_of_ble_eq_true rfl) fl_10_26 rfl rfl (fun i1 => ?_)
  refine g_bipush C dX10_addSpot_4 rfl ?_
  refine g_icmp_lt C dX10_addSpot_6 i1 (by decide) rfl (tgt := 13) (fun c2 => ?_) (fun c2 => ?_)
  · have h := ifT c2 h
    refine g_aload_n C dX10_addSpot_13 rfl ?_
    refine g_dup C dX10_addSpot_14 rfl ?_
    refine g_getI (j := 4) C dX10_addSpot_15 rfl (Nat.le_of_ble_eq_true rfl) (Nat.le_of_ble_eq_true rfl) fl_10_26 rfl rfl (fun i3 => ?_)
    refine g_dup_x1 C dX10_addSpot_18 rfl rfl ?_
    refine g_iconst C dX10_addSpot_19 ?_
    refine g_iadd C dX10_addSpot_20 ?_
    obtain ⟨σ4, qσ4, h⟩ := bnd h
    refine g_putI (j := 4) C dX10_addSpot_21 rfl (Nat.le_of_ble_eq_true rfl) (Nat.le_of_ble_eq_true rfl) fl_10_26 rfl rfl rfl rfl qσ4 (iwr _) ?_
    exact g_iretP C dX10_addSpot_24 hr hlk h i3
  · have h := ifF c2 h
    refine g_iconst C dX10_addSpot_9 ?_
    refine g_goto C dX10_addSpot_10 rfl (tgt := 24) ?_
    exact g_iretP C dX10_addSpot_24 hr hlk h (by decide)
theorem dX10_sum_0 : decode cX10_sum 0 = .ok (.iload_n 0, 1) := by decide +kernel
theorem dX10_sum_1 : decode cX10_sum 1 = .ok (.iconst (-1), 1) := by decide +kernel
theorem dX10_sum_2 : decode cX10_sum 2 = .ok (.if_icmp .eq 8, 3) := by decide +kernel
theorem dX10_sum_5 : decode cX10_sum 5 = .ok (.iload_n 2, 1) := by decide +kernel
theorem dX10_sum_6 : decode cX10_sum 6 = .ok (.iconst (-1), 1) := by decide +kernel
theorem dX10_sum_7 : decode cX10_sum 7 = .ok (.if_icmp .ne 7, 3) := by decide +kernel
theorem dX10_sum_10 : decode cX10_sum 10 = .ok (.iconst (-1), 1) := by decide +kernel
theorem dX10_sum_11 : decode cX10_sum 11 = .ok (.goto 8, 3) := by decide +kernel
theorem dX10_sum_14 : decode cX10_sum 14 = .ok (.iload_n 0, 1) := by decide +kernel
theorem dX10_sum_15 : decode cX10_sum 15 = .ok (.iload_n 1, 1) := by decide +kernel
theorem dX10_sum_16 : decode cX10_sum 16 = .ok (.iadd, 1) := by decide +kernel
theorem dX10_sum_17 : decode cX10_sum 17 = .ok (.iload_n 2, 1) := by decide +kernel
theorem dX10_sum_18 : decode cX10_sum 18 = .ok (.iadd, 1) := by decide +kernel
theorem dX10_sum_19 : decode cX10_sum 19 = .ok (.ireturn, 1) := by decide +kernel
abbrev rm_X10_sum : Room := { frames := 0, cells := 0, slots := 0, locals := 0 }
set_option maxRecDepth 100000 in
set_option maxHeartbeats 4000000 in
theorem ct_X10_sum {w : Wd} {l : Launch} {a1 : Int} {a2 : Int} {a3 : Int} {σ : St} {y : Int} (ia1 : InI a1) (ia2 : InI a2) (ia3 : InI a3) (h : m_X10_sum a1 a2 a3 σ = some y) : Ct w l yX10_sum (Cond.code yX10_sum cX10_sum 3 (some .int) :: TB) rm_X10_sum [iv a1, iv a2, iv a3] σ (some (iv y)) (InI y) σ := by
  refine Ct.of2 [some (iv a1), some (iv a2), some (iv a3)] 0 rfl pn_RX10 (Nat.le_of_ble_eq_true rfl) ?_
  intro p e s m args below meth c C hr hlk
  unfold m_X10_sum at h
  refine g_iload_n C dX10_sum_0 rfl ?_
  refine g_iconst C dX10_sum_1 ?_
  refine g_icmp_eq C dX10_sum_2 ia1 (by decide) rfl (tgt := 10) (fun c1 => ?_) (fun c1 => ?_)
  · have h := ifT c1 h
    refine g_iconst C dX10_sum_10 ?_
    refine g_goto C dX10_sum_11 rfl (tgt := 19) ?_
    exact g_iretU C dX10_sum_19 hr hlk h (by decide)
  · have h := ifF c1 h
    refine g_iload_n C dX10_sum_5 rfl ?_
    refine g_iconst C dX10_sum_6 ?_
    refine g_icmp_ne C dX10_sum_7 ia3 (by decide) rfl (tgt := 14) (fun c2 => ?_) (fun c2 => ?_)
    · have h := ifF c2 h
      refine g_iload_n C dX10_sum_14 rfl ?_
      refine g_iload_n C dX10_sum_15 rfl ?_
      refine g_iadd C dX10_sum_16 ?_
      refine g_iload_n C dX10_sum_17 rfl ?_
      refine g_iadd C dX10_sum_18 ?_
      exact g_iretU C dX10_sum_19 hr hlk h (iwr _)
    · have h := ifT c2 h
      refine g_iconst C dX10_sum_10 ?_
      refine g_goto C dX10_sum_11 rfl (tgt := 19) ?_
      exact g_iretU C dX10_sum_19 hr hlk h (by decide)
theorem dX10_shorten_0 : decode cX10_shorten 0 = .ok (.iload_n 3, 1) := by decide +kernel
theorem dX10_shorten_1 : decode cX10_shorten 1 = .ok (.iconst (-1), 1) := by decide +kernel
theorem dX10_shorten_2 : decode cX10_shorten 2 = .ok (.if_icmp .eq 36, 3) := by decide +kernel
theorem dX10_shorten_5 : decode cX10_shorten 5 = .ok (.aload_n 0, 1) := by decide +kernel
theorem dX10_shorten_6 : decode cX10_shorten 6 = .ok (.getfield 23, 3) := by decide +kernel
theorem dX10_shorten_9 : decode cX10_shorten 9 = .ok (.iload_n 1, 1) := by decide +kernel
theorem dX10_shorten_10 : decode cX10_shorten 10 = .ok (.aaload, 1) := by decide +kernel
theorem dX10_shorten_11 : decode cX10_shorten 11 = .ok (.iload_n 2, 1) := by decide +kernel
theorem dX10_shorten_12 : decode cX10_shorten 12 = .ok (.iaload, 1) := by decide +kernel
theorem dX10_shorten_13 : decode cX10_shorten 13 = .ok (.iconst (-1), 1) := by decide +kernel
theorem dX10_shorten_14 : decode cX10_shorten 14 = .ok (.if_icmp .eq 15, 3) := by decide +kernel
theorem dX10_shorten_17 : decode cX10_shorten 17 = .ok (.iload_n 3, 1) := by decide +kernel
theorem dX10_shorten_18 : decode cX10_shorten 18 = .ok (.aload_n 0, 1) := by decide +kernel
theorem dX10_shorten_19 : decode cX10_shorten 19 = .ok (.getfield 23, 3) := by decide +kernel
theorem dX10_shorten_22 : decode cX10_shorten 22 = .ok (.iload_n 1, 1) := by decide +kernel
theorem dX10_shorten_23 : decode cX10_shorten 23 = .ok (.aaload, 1) := by decide +kernel
theorem dX10_shorten_24 : decode cX10_shorten 24 = .ok (.iload_n 2, 1) := by decide +kernel
theorem dX10_shorten_25 : decode cX10_shorten 25 = .ok (.iaload, 1) := by decide +kernel
theorem dX10_shorten_26 : decode cX10_shorten 26 = .ok (.if_icmp .ge 12, 3) := by decide +kernel
theorem dX10_shorten_29 : decode cX10_shorten 29 = .ok (.aload_n 0, 1) := by decide +kernel
theorem dX10_shorten_30 : decode cX10_shorten 30 = .ok (.getfield 23, 3) := by decide +kernel
theorem dX10_shorten_33 : decode cX10_shorten 33 = .ok (.iload_n 1, 1) := by decide +kernel
theorem dX10_shorten_34 : decode cX10_shorten 34 = .ok (.aaload, 1) := by decide +kernel
theorem dX10_shorten_35 : decode cX10_shorten 35 = .ok (.iload_n 2, 1) := by decide +kernel
theorem dX10_shorten_36 : decode cX10_shorten 36 = .ok (.iload_n 3, 1) := by decide +kernel
theorem dX10_shorten_37 : decode cX10_shorten 37 = .ok (.iastore, 1) := by decide +kernel
theorem dX10_shorten_38 : decode cX10_shorten 38 = .ok (.return_, 1) := by decide +kernel
abbrev rm_X10_shorten : Room := { frames := 0, cells := 0, slots := 0, locals := 0 }
set_option maxRecDepth 100000 in
set_option maxHeartbeats 4000000 in
theorem ct_X10_shorten {w : Wd} {l : Launch} {a1 : Int} {a2 : Int} {a3 : Int} {σ : St} {σ' : St} (ia1 : InI a1) (ia2 : InI a2) (ia3 : InI a3) (h : m_X10_shorten a1 a2 a3 σ = some σ') : Ct w l yX10_shorten (Cond.code yX10_shorten cX10_shorten 4 none :: TB) rm_X10_shorten [rv w 1, iv a1, iv a2, iv a3] σ none True σ' := by
  refine Ct.of2 [some (rv w 1), some (iv a1), some (iv a2), some (iv a3)] 0 rfl pn_RX10 (Nat.le_of_ble_eq_true rfl) ?_
  intro p e s m args below meth c C hr hlk
  unfold m_X10_shorten at h
  refine g_iload_n C dX10_shorten_0 rfl ?_
  refine g_iconst C dX10_shorten_1 ?_
  refine g_icmp_eq C dX10_shorten_2 ia3 (by decide) rfl (tgt := 38) (fun c1 => ?_) (fun c1 => ?_)
  · have h := ifT c1 h
    exact g_vretP C dX10_shorten_38 hr hlk h
  · have h := ifF c1 h
    refine g_aload_n C dX10_shorten_5 rfl ?_
    refine g_getR (j := 3) C dX10_shorten_6 rfl (Nat.le_of_ble_eq_true rfl) (Nat.le_of_ble_eq_true rfl) fl_10_23 rfl rfl (r := 5) rfl ?_
    refine g_iload_n C dX10_shorten_9 rfl ?_
    obtain ⟨k2, qk2, h⟩ := bnd h
    refine g_aalI C dX10_shorten_10 rfl rfl qk2 ia1 ?_
    refine g_iload_n C dX10_shorten_11 rfl ?_
    obtain ⟨x3, qx3, h⟩ := bnd h
    refine g_iald C dX10_shorten_12 (rrB_5 qk2).1 (rrB_5 qk2).2 qx3 ia2 (fun ix3 => ?_)
    refine g_iconst C dX10_shorten_13 ?_
    have hJ29_10 : m_X10_shorten_J29 a1 σ a2 a3 = some σ' → GM w p l e rm_X10_shorten s m args below meth c none True σ' 4 29 [some (rv w 1), some (iv a1), some (iv a2), some (iv a3)] [] σ := by
      intro h
      unfold m_X10_shorten_J29 at h
      refine g_aload_n C dX10_shorten_29 rfl ?_
      refine g_getR (j := 3) C dX10_shorten_30 rfl (Nat.le_of_ble_eq_true rfl) (Nat.le_of_ble_eq_true rfl) fl_10_23 rfl rfl (r := 5) rfl ?_
      refine g_iload_n C dX10_shorten_33 rfl ?_
      obtain ⟨k8, qk8, h⟩ := bnd h
      refine g_aalI C dX10_shorten_34 rfl rfl qk8 ia1 ?_
      refine g_iload_n C dX10_shorten_35 rfl ?_
      refine g_iload_n C dX10_shorten_36 rfl ?_
      obtain ⟨σ9, qσ9, h⟩ := bnd h
      refine g_iast C dX10_shorten_37 (rrB_5 qk8).1 (rrB_5 qk8).2 qσ9 ia2 ia3 ?_
      exact g_vretP C dX10_shorten_38 hr hlk h
    refine g_icmp_eq C dX10_shorten_14 ix3 (by decide) rfl (tgt := 29) (fun c4 => ?_) (fun c4 => ?_)
    · have h := ifT c4 h
      exact hJ29_10  h
    · have h := ifF c4 h
      refine g_iload_n C dX10_shorten_17 rfl ?_
      refine g_aload_n C dX10_shorten_18 rfl ?_
      refine g_getR (j := 3) C dX10_shorten_19 rfl (Nat.le_of_ble_eq_true rfl) (Nat.le_of_ble_eq_true rfl) fl_10_23 rfl rfl (r := 5) rfl ?_
      refine g_iload_n C dX10_shorten_22 rfl ?_
      obtain ⟨k5, qk5, h⟩ := bnd h
      refine g_aalI C dX10_shorten_23 rfl rfl qk5 ia1 ?_
      refine g_iload_n C dX10_shorten_24 rfl ?_
      obtain ⟨x6, qx6, h⟩ := bnd h
      refine g_iald C dX10_shorten_25 (rrB_5 qk5).1 (rrB_5 qk5).2 qx6 ia2 (fun ix6 => ?_)
      refine g_icmp_ge C dX10_shorten_26 ia3 ix6 rfl (tgt := 38) (fun c7 => ?_) (fun c7 => ?_)
      · have h := ifT c7 h
        exact g_vretP C dX10_shorten_38 hr hlk h
      · have h := ifF c7 h
        exact hJ29_10  h
theorem dX10_addWay_0 : decode cX10_addWay 0 = .ok (.aload_n 0, 1) := by decide +kernel
theorem dX10_addWay_1 : decode cX10_addWay 1 = .ok (.getfield 30, 3) := by decide +kernel
theorem dX10_addWay_4 : decode cX10_addWay 4 = .ok (.bipush 24, 2) := by decide +kernel
theorem dX10_addWay_6 : decode cX10_addWay 6 = .ok (.if_icmp .lt 5, 3) := by decide +kernel
theorem dX10_addWay_9 : decode cX10_addWay 9 = .ok (.iconst (-1), 1) := by decide +kernel
theorem dX10_addWay_10 : decode cX10_addWay 10 = .ok (.ireturn, 1) := by decide +kernel
theorem dX10_addWay_11 : decode cX10_addWay 11 = .ok (.aload_n 0, 1) := by decide +kernel
theorem dX10_addWay_12 : decode cX10_addWay 12 = .ok (.getfield 9, 3) := by decide +kernel
theorem dX10_addWay_15 : decode cX10_addWay 15 = .ok (.aload_n 0, 1) := by decide +kernel
theorem dX10_addWay_16 : decode cX10_addWay 16 = .ok (.getfield 30, 3) := by decide +kernel
theorem dX10_addWay_19 : decode cX10_addWay 19 = .ok (.iload_n 1, 1) := by decide +kernel
theorem dX10_addWay_20 : decode cX10_addWay 20 = .ok (.iastore, 1) := by decide +kernel
theorem dX10_addWay_21 : decode cX10_addWay 21 = .ok (.aload_n 0, 1) := by decide +kernel
theorem dX10_addWay_22 : decode cX10_addWay 22 = .ok (.getfield 15, 3) := by decide +kernel
theorem dX10_addWay_25 : decode cX10_addWay 25 = .ok (.aload_n 0, 1) := by decide +kernel
theorem dX10_addWay_26 : decode cX10_addWay 26 = .ok (.getfield 30, 3) := by decide +kernel
theorem dX10_addWay_29 : decode cX10_addWay 29 = .ok (.iload_n 2, 1) := by decide +kernel
theorem dX10_addWay_30 : decode cX10_addWay 30 = .ok (.iastore, 1) := by decide +kernel
theorem dX10_addWay_31 : decode cX10_addWay 31 = .ok (.aload_n 0, 1) := by decide +kernel
theorem dX10_addWay_32 : decode cX10_addWay 32 = .ok (.getfield 18, 3) := by decide +kernel
theorem dX10_addWay_35 : decode cX10_addWay 35 = .ok (.aload_n 0, 1) := by decide +kernel
theorem dX10_addWay_36 : decode cX10_addWay 36 = .ok (.getfield 30, 3) := by decide +kernel
theorem dX10_addWay_39 : decode cX10_addWay 39 = .ok (.iload_n 3, 1) := by decide +kernel
theorem dX10_addWay_40 : decode cX10_addWay 40 = .ok (.iastore, 1) := by decide +kernel
theorem dX10_addWay_41 : decode cX10_addWay 41 = .ok (.iconst 0, 1) := by decide +kernel
theorem dX10_addWay_42 : decode cX10_addWay 42 = .ok (.istore 4, 2) := by decide +kernel
theorem dX10_addWay_44 : decode cX10_addWay 44 = .ok (.iload 4, 2) := by decide +kernel
theorem dX10_addWay_46 : decode cX10_addWay 46 = .ok (.aload_n 0, 1) := by decide +kernel
theorem dX10_addWay_47 : decode cX10_addWay 47 = .ok (.getfield 26, 3) := by decide +kernel
theorem dX10_addWay_50 : decode cX10_addWay 50 = .ok (.if_icmp .ge 87, 3) := by decide +kernel
theorem dX10_addWay_53 : decode cX10_addWay 53 = .ok (.iconst 0, 1) := by decide +kernel
theorem dX10_addWay_54 : decode cX10_addWay 54 = .ok (.istore 5, 2) := by decide +kernel
theorem dX10_addWay_56 : decode cX10_addWay 56 = .ok (.iload 5, 2) := by decide +kernel
theorem dX10_addWay_58 : decode cX10_addWay 58 = .ok (.aload_n 0, 1) := by decide +kernel
theorem dX10_addWay_59 : decode cX10_addWay 59 = .ok (.getfield 26, 3) := by decide +kernel
theorem dX10_addWay_62 : decode cX10_addWay 62 = .ok (.if_icmp .ge 69, 3) := by decide +kernel
theorem dX10_addWay_65 : decode cX10_addWay 65 = .ok (.aload_n 0, 1) := by decide +kernel
theorem dX10_addWay_66 : decode cX10_addWay 66 = .ok (.iload 4, 2) := by decide +kernel
theorem dX10_addWay_68 : decode cX10_addWay 68 = .ok (.iload 5, 2) := by decide +kernel
theorem dX10_addWay_70 : decode cX10_addWay 70 = .ok (.aload_n 0, 1) := by decide +kernel
theorem dX10_addWay_71 : decode cX10_addWay 71 = .ok (.getfield 23, 3) := by decide +kernel
theorem dX10_addWay_74 : decode cX10_addWay 74 = .ok (.iload 4, 2) := by decide +kernel
theorem dX10_addWay_76 : decode cX10_addWay 76 = .ok (.aaload, 1) := by decide +kernel
theorem dX10_addWay_77 : decode cX10_addWay 77 = .ok (.iload_n 1, 1) := by decide +kernel
theorem dX10_addWay_78 : decode cX10_addWay 78 = .ok (.iaload, 1) := by decide +kernel
theorem dX10_addWay_79 : decode cX10_addWay 79 = .ok (.iload_n 3, 1) := by decide +kernel
theorem dX10_addWay_80 : decode cX10_addWay 80 = .ok (.aload_n 0, 1) := by decide +kernel
theorem dX10_addWay_81 : decode cX10_addWay 81 = .ok (.getfield 23, 3) := by decide +kernel
theorem dX10_addWay_84 : decode cX10_addWay 84 = .ok (.iload_n 2, 1) := by decide +kernel
theorem dX10_addWay_85 : decode cX10_addWay 85 = .ok (.aaload, 1) := by decide +kernel
theorem dX10_addWay_86 : decode cX10_addWay 86 = .ok (.iload 5, 2) := by decide +kernel
theorem dX10_addWay_88 : decode cX10_addWay 88 = .ok (.iaload, 1) := by decide +kernel
theorem dX10_addWay_89 : decode cX10_addWay 89 = .ok (.invokestatic 33, 3) := by decide +kernel
theorem dX10_addWay_92 : decode cX10_addWay 92 = .ok (.invokevirtual 37, 3) := by decide +kernel
theorem dX10_addWay_95 : decode cX10_addWay 95 = .ok (.aload_n 0, 1) := by decide +kernel
theorem dX10_addWay_96 : decode cX10_addWay 96 = .ok (.iload 4, 2) := by decide +kernel
theorem dX10_addWay_98 : decode cX10_addWay 98 = .ok (.iload 5, 2) := by decide +kernel
theorem dX10_addWay_100 : decode cX10_addWay 100 = .ok (.aload_n 0, 1) := by decide +kernel
theorem dX10_addWay_101 : decode cX10_addWay 101 = .ok (.getfield 23, 3) := by decide +kernel
theorem dX10_addWay_104 : decode cX10_addWay 104 = .ok (.iload 4, 2) := by decide +kernel
theorem dX10_addWay_106 : decode cX10_addWay 106 = .ok (.aaload, 1) := by decide +kernel
theorem dX10_addWay_107 : decode cX10_addWay 107 = .ok (.iload_n 2, 1) := by decide +kernel
theorem dX10_addWay_108 : decode cX10_addWay 108 = .ok (.iaload, 1) := by decide +kernel
theorem dX10_addWay_109 : decode cX10_addWay 109 = .ok (.iload_n 3, 1) := by decide +kernel
theorem dX10_addWay_110 : decode cX10_addWay 110 = .ok (.aload_n 0, 1) := by decide +kernel
theorem dX10_addWay_111 : decode cX10_addWay 111 = .ok (.getfield 23, 3) := by decide +kernel
theorem dX10_addWay_114 : decode cX10_addWay 114 = .ok (.iload_n 1, 1) := by decide +kernel
theorem dX10_addWay_115 : decode cX10_addWay 115 = .ok (.aaload, 1) := by decide +kernel
theorem dX10_addWay_116 : decode cX10_addWay 116 = .ok (.iload 5, 2) := by decide +kernel
theorem dX10_addWay_118 : decode cX10_addWay 118 = .ok (.iaload, 1) := by decide +kernel
theorem dX10_addWay_119 : decode cX10_addWay 119 = .ok (.invokestatic 33, 3) := by decide +kernel
theorem dX10_addWay_122 : decode cX10_addWay 122 = .ok (.invokevirtual 37, 3) := by decide +kernel
theorem dX10_addWay_125 : decode cX10_addWay 125 = .ok (.iinc 5 1, 3) := by decide +kernel
theorem dX10_addWay_128 : decode cX10_addWay 128 = .ok (.goto (-72), 3) := by decide +kernel
theorem dX10_addWay_131 : decode cX10_addWay 131 = .ok (.iinc 4 1, 3) := by decide +kernel
theorem dX10_addWay_134 : decode cX10_addWay 134 = .ok (.goto (-90), 3) := by decide +kernel
theorem dX10_addWay_137 : decode cX10_addWay 137 = .ok (.aload_n 0, 1) := by decide +kernel
theorem dX10_addWay_138 : decode cX10_addWay 138 = .ok (.dup, 1) := by decide +kernel
theorem dX10_addWay_139 : decode cX10_addWay 139 = .ok (.getfield 30, 3) := by decide +kernel
theorem dX10_addWay_142 : decode cX10_addWay 142 = .ok (.dup_x1, 1) := by decide +kernel
theorem dX10_addWay_143 : decode cX10_addWay 143 = .ok (.iconst 1, 1) := by decide +kernel
theorem dX10_addWay_144 : decode cX10_addWay 144 = .ok (.iadd, 1) := by decide +kernel
theorem dX10_addWay_145 : decode cX10_addWay 145 = .ok (.putfield 30, 3) := by decide +kernel
theorem dX10_addWay_148 : decode cX10_addWay 148 = .ok (.ireturn, 1) := by decide +kernel
abbrev rm_X10_addWay : Room := { frames := 1, cells := 0, slots := 0, locals := 23 }
set_option maxRecDepth 100000 in
set_option maxHeartbeats 4000000 in
theorem ct_X10_addWay {w : Wd} {l : Launch} {a1 : Int} {a2 : Int} {a3 : Int} {σ : St} {y : Int} {σ' : St} (ia1 : InI a1) (ia2 : InI a2) (ia3 : InI a3) (h : m_X10_addWay a1 a2 a3 σ = some (y, σ')) : Ct w l yX10_addWay (Cond.code yX10_addWay cX10_addWay 6 (some .int) :: TB) rm_X10_addWay [rv w 1, iv a1, iv a2, iv a3] σ (some (iv y)) (InI y) σ' := by
  refine Ct.of2 [some (rv w 1), some (iv a1), some (iv a2), some (iv a3), none, none] 2 rfl pn_RX10 (Nat.le_of_ble_eq_true rfl) ?_
  intro p e s m args below meth c C hr hlk
  unfold m_X10_addWay at h
  refine g_aload_n C dX10_addWay_0 rfl ?_
  refine g_getI (j := 5) C dX10_addWay_1 rfl (Nat.le_of_ble_eq_true rfl) (Nat.le_of_ble_eq_true rfl) fl_10_30 rfl rfl (fun i1 => ?_)
  refine g_bipush C dX10_addWay_4 rfl ?_
  refine g_icmp_lt C dX10_addWay_6 i1 (by decide) rfl (tgt := 11) (fun c2 => ?_) (fun c2 => ?_)
  · have h := ifT c2 h
    refine g_aload_n C dX10_addWay_11 rfl ?_
    refine g_getR (j := 0) C dX10_addWay_12 rfl (Nat.le_of_ble_eq_true rfl) (Nat.le_of_ble_eq_true rfl) fl_10_9 rfl rfl (r := 2) rfl ?_
    refine g_aload_n C dX10_addWay_15 rfl ?_
    refine g_getI (j := 5) C dX10_addWay_16 rfl (Nat.le_of_ble_eq_true rfl) (Nat.le_of_ble_eq_true rfl) fl_10_30 rfl rfl (fun i3 => ?_)
    refine g_iload_n C dX10_addWay_19 rfl ?_
    obtain ⟨σ4, qσ4, h⟩ := bnd h
    refine g_iast C dX10_addWay_20 rfl rfl qσ4 i3 ia1 ?_
    refine g_aload_n C dX10_addWay_21 rfl ?_
    refine g_getR (j := 1) C dX10_addWay_22 rfl (Nat.le_of_ble_eq_true rfl) (Nat.le_of_ble_eq_true rfl) fl_10_15 rfl rfl (r := 3) rfl ?_
    refine g_aload_n C dX10_addWay_25 rfl ?_
    refine g_getI (j := 5) C dX10_addWay_26 rfl (Nat.le_of_ble_eq_true rfl) (Nat.le_of_ble_eq_true rfl) fl_10_30 rfl rfl (fun i5 => ?_)
    refine g_iload_n C dX10_addWay_29 rfl ?_
    obtain ⟨σ6, qσ6, h⟩ := bnd h
    refine g_iast C dX10_addWay_30 rfl rfl qσ6 i5 ia2 ?_
    refine g_aload_n C dX10_addWay_31 rfl ?_
    refine g_getR (j := 2) C dX10_addWay_32 rfl (Nat.le_of_ble_eq_true rfl) (Nat.le_of_ble_eq_true rfl) fl_10_18 rfl rfl (r := 4) rfl ?_
    refine g_aload_n C dX10_addWay_35 rfl ?_
    refine g_getI (j := 5) C dX10_addWay_36 rfl (Nat.le_of_ble_eq_true rfl) (Nat.le_of_ble_eq_true rfl) fl_10_30 rfl rfl (fun i7 => ?_)
    refine g_iload_n C dX10_addWay_39 rfl ?_
    obtain ⟨σ8, qσ8, h⟩ := bnd h
    refine g_iast C dX10_addWay_40 rfl rfl qσ8 i7 ia3 ?_
    refine g_iconst C dX10_addWay_41 ?_
    refine g_istore (L1 := [some (rv w 1), some (iv a1), some (iv a2), some (iv a3), some (iv 0), none]) C dX10_addWay_42 rfl (Nat.le_of_ble_eq_true rfl) rfl ?_
    obtain ⟨b9, hb9, hF9⟩ := bnd h
    have hX9 : ∀ (σ32 : St) , σ32 = b9 → GM w p l e rm_X10_addWay s m args below meth c (some (iv y)) (InI y) σ' 6 137 [some (rv w 1), none, none, none, none, none] [] σ32 := by
      intro σ32 q
      subst q
      have h := hF9
      refine g_aload_n C dX10_addWay_137 rfl ?_
      refine g_dup C dX10_addWay_138 rfl ?_
      refine g_getI (j := 5) C dX10_addWay_139 rfl (Nat.le_of_ble_eq_true rfl) (Nat.le_of_ble_eq_true rfl) fl_10_30 rfl rfl (fun i33 => ?_)
      refine g_dup_x1 C dX10_addWay_142 rfl rfl ?_
      refine g_iconst C dX10_addWay_143 ?_
      refine g_iadd C dX10_addWay_144 ?_
      obtain ⟨σ34, qσ34, h⟩ := bnd h
      refine g_putI (j := 5) C dX10_addWay_145 rfl (Nat.le_of_ble_eq_true rfl) (Nat.le_of_ble_eq_true rfl) fl_10_30 rfl rfl rfl rfl qσ34 (iwr _) ?_
      exact g_iretP C dX10_addWay_148 hr hlk h i33
    have hL9 : ∀ (n : Nat) (x10 : Int) (σ11 : St) , InI x10 → lpN (fun a => m_X10_addWay_L44 a1 a2 a3 a.1 a.2) n (x10, σ11) = some b9 → GM w p l e rm_X10_addWay s m args below meth c (some (iv y)) (InI y) σ' 6 44 [some (rv w 1), some (iv a1), some (iv a2), some (iv a3), some (iv x10), none] [] σ11 := by
      intro n
      induction n with
      | zero => intro x10 σ11 ix10 q; cases q
      | succ n ih9 =>
        intro x10 σ11 ix10 q
        obtain ⟨o9, h, hk9⟩ := lp_step q
        replace h : m_X10_addWay_L44 a1 a2 a3 x10 σ11 = some o9 := h
        unfold m_X10_addWay_L44 at h
        refine g_iload C dX10_addWay_44 rfl ?_
        refine g_aload_n C dX10_addWay_46 rfl ?_
        refine g_getI (j := 4) C dX10_addWay_47 rfl (Nat.le_of_ble_eq_true rfl) (Nat.le_of_ble_eq_true rfl) fl_10_26 rfl rfl (fun i12 => ?_)
        refine g_icmp_ge C dX10_addWay_50 ix10 i12 rfl (tgt := 137) (fun c13 => ?_) (fun c13 => ?_)
        · have h := ifT c13 h
          refine g_mask [true, false, false, false, false, true] ?_
          obtain rfl := Option.some.inj h
          exact hX9 σ11 (lpR hk9).symm
        · have h := ifF c13 h
          refine g_iconst C dX10_addWay_53 ?_
          refine g_istore (L1 := [some (rv w 1), some (iv a1), some (iv a2), some (iv a3), some (iv x10), some (iv 0)]) C dX10_addWay_54 rfl (Nat.le_of_ble_eq_true rfl) rfl ?_
          obtain ⟨b14, hb14, hF14⟩ := bnd h
          have hX14 : ∀ (σ31 : St) , σ31 = b14 → GM w p l e rm_X10_addWay s m args below meth c (some (iv y)) (InI y) σ' 6 131 [some (rv w 1), some (iv a1), some (iv a2), some (iv a3), some (iv x10), none] [] σ31 := by
            intro σ31 q
            subst q
            have h := hF14
            refine g_iinc (L1 := [some (rv w 1), some (iv a1), some (iv a2), some (iv a3), some (iv (wr (x10 + 1))), none]) C dX10_addWay_131 rfl rfl (Nat.le_of_ble_eq_true rfl) rfl ?_
            refine g_goto C dX10_addWay_134 rfl (tgt := 44) ?_
            obtain rfl := Option.some.inj h
            exact ih9 _ _ (iwr _) (lpL hk9)
          have hL14 : ∀ (n : Nat) (x15 : Int) (σ16 : St) , InI x15 → lpN (fun a => m_X10_addWay_L56 x10 a1 a2 a3 a.1 a.2) n (x15, σ16) = some b14 → GM w p l e rm_X10_addWay s m args below meth c (some (iv y)) (InI y) σ' 6 56 [some (rv w 1), some (iv a1), some (iv a2), some (iv a3), some (iv x10), some (iv x15)] [] σ16 := by
            intro n
            induction n with
            | zero => intro x15 σ16 ix15 q; cases q
            | succ n ih14 =>
              intro x15 σ16 ix15 q
              obtain ⟨o14, h, hk14⟩ := lp_step q
              replace h : m_X10_addWay_L56 x10 a1 a2 a3 x15 σ16 = some o14 := h
              unfold m_X10_addWay_L56 at h
              refine g_iload C dX10_addWay_56 rfl ?_
              refine g_aload_n C dX10_addWay_58 rfl ?_
              refine g_getI (j := 4) C dX10_addWay_59 rfl (Nat.le_of_ble_eq_true rfl) (Nat.le_of_ble_eq_true rfl) fl_10_26 rfl rfl (fun i17 => ?_)
              refine g_icmp_ge C dX10_addWay_62 ix15 i17 rfl (tgt := 131) (fun c18 => ?_) (fun c18 => ?_)
              · have h := ifT c18 h
                refine g_mask [true, true, true, true, true, false] ?_
                obtain rfl := Option.some.inj h
                exact hX14 σ16 (lpR hk14).symm
              · have h := ifF c18 h
                refine g_aload_n C dX10_addWay_65 rfl ?_
                refine g_iload C dX10_addWay_66 rfl ?_
                refine g_iload C dX10_addWay_68 rfl ?_
                refine g_aload_n C dX10_addWay_70 rfl ?_
                refine g_getR (j := 3) C dX10_addWay_71 rfl (Nat.le_of_ble_eq_true rfl) (Nat.le_of_ble_eq_true rfl) fl_10_23 rfl rfl (r := 5) rfl ?_
                refine g_iload C dX10_addWay_74 rfl ?_
                obtain ⟨k19, qk19, h⟩ := bnd h
                refine g_aalI C dX10_addWay_76 rfl rfl qk19 ix10 ?_
                refine g_iload_n C dX10_addWay_77 rfl ?_
                obtain ⟨x20, qx20, h⟩ := bnd h
                refine g_iald C dX10_addWay_78 (rrB_5 qk19).1 (rrB_5 qk19).2 qx20 ia1 (fun ix20 => ?_)
                refine g_iload_n C dX10_addWay_79 rfl ?_
                refine g_aload_n C dX10_addWay_80 rfl ?_
                refine g_getR (j := 3) C dX10_addWay_81 rfl (Nat.le_of_ble_eq_true rfl) (Nat.le_of_ble_eq_true rfl) fl_10_23 rfl rfl (r := 5) rfl ?_
                refine g_iload_n C dX10_addWay_84 rfl ?_
                obtain ⟨k21, qk21, h⟩ := bnd h
                refine g_aalI C dX10_addWay_85 rfl rfl qk21 ia2 ?_
                refine g_iload C dX10_addWay_86 rfl ?_
                obtain ⟨x22, qx22, h⟩ := bnd h
                refine g_iald C dX10_addWay_88 (rrB_5 qk21).1 (rrB_5 qk21).2 qx22 ix15 (fun ix22 => ?_)
                obtain ⟨x23, qx23, h⟩ := bnd h
                refine g_callS1 (As := [iv x20, iv a3, iv x22]) C dX10_addWay_89 mi_X10_sum ml_10_33 (ct_X10_sum ix20 ia3 ix22 qx23) rfl ⟨rfl, rfl⟩ ⟨Nat.le_of_ble_eq_true rfl, Nat.le_of_ble_eq_true rfl⟩ ⟨Nat.zero_le _, Nat.zero_le _⟩ rfl (Nat.le_of_ble_eq_true rfl) (fun ix23 => ?_)
                obtain ⟨σ24, qσ24, h⟩ := bnd h
                refine g_callV0 (As := [iv x10, iv x15, iv x23]) C dX10_addWay_92 mi_X10_shorten ml_10_37 (ct_X10_shorten ix10 ix15 ix23 qσ24) rfl rfl ⟨rfl, rfl⟩ ⟨Nat.le_of_ble_eq_true rfl, Nat.le_of_ble_eq_true rfl⟩ ⟨Nat.zero_le _, Nat.zero_le _⟩ rfl (Nat.le_of_ble_eq_true rfl) (fun _ => ?_)
                refine g_aload_n C dX10_addWay_95 rfl ?_
                refine g_iload C dX10_addWay_96 rfl ?_
                refine g_iload C dX10_addWay_98 rfl ?_
                refine g_aload_n C dX10_addWay_100 rfl ?_
                refine g_getR (j := 3) C dX10_addWay_101 rfl (Nat.le_of_ble_eq_true rfl) (Nat.le_of_ble_eq_true rfl) fl_10_23 rfl rfl (r := 5) rfl ?_
                refine g_iload C dX10_addWay_104 rfl ?_
                obtain ⟨k25, qk25, h⟩ := bnd h
                refine g_aalI C dX10_addWay_106 rfl rfl qk25 ix10 ?_
                refine g_iload_n C dX10_addWay_107 rfl ?_
                obtain ⟨x26, qx26, h⟩ := bnd h
                refine g_iald C dX10_addWay_108 (rrB_5 qk25).1 (rrB_5 qk25).2 qx26 ia2 (fun ix26 => ?_)
                refine g_iload_n C dX10_addWay_109 rfl ?_
                refine g_aload_n C dX10_addWay_110 rfl ?_
                refine g_getR (j := 3) C dX10_addWay_111 rfl (Nat.le_of_ble_eq_true rfl) (Nat.le_of_ble_eq_true rfl) fl_10_23 rfl rfl (r := 5) rfl ?_
                refine g_iload_n C dX10_addWay_114 rfl ?_
                obtain ⟨k27, qk27, h⟩ := bnd h
                refine g_aalI C dX10_addWay_115 rfl rfl qk27 ia1 ?_
                refine g_iload C dX10_addWay_116 rfl ?_
                obtain ⟨x28, qx28, h⟩ := bnd h
                refine g_iald C dX10_addWay_118 (rrB_5 qk27).1 (rrB_5 qk27).2 qx28 ix15 (fun ix28 => ?_)
                obtain ⟨x29, qx29, h⟩ := bnd h
                refine g_callS1 (As := [iv x26, iv a3, iv x28]) C dX10_addWay_119 mi_X10_sum ml_10_33 (ct_X10_sum ix26 ia3 ix28 qx29) rfl ⟨rfl, rfl⟩ ⟨Nat.le_of_ble_eq_true rfl, Nat.le_of_ble_eq_true rfl⟩ ⟨Nat.zero_le _, Nat.zero_le _⟩ rfl (Nat.le_of_ble_eq_true rfl) (fun ix29 => ?_)
                obtain ⟨σ30, qσ30, h⟩ := bnd h
                refine g_callV0 (As := [iv x10, iv x15, iv x29]) C dX10_addWay_122 mi_X10_shorten ml_10_37 (ct_X10_shorten ix10 ix15 ix29 qσ30) rfl rfl ⟨rfl, rfl⟩ ⟨Nat.le_of_ble_eq_true rfl, Nat.le_of_ble_eq_true rfl⟩ ⟨Nat.zero_le _, Nat.zero_le _⟩ rfl (Nat.le_of_ble_eq_true rfl) (fun _ => ?_)
                refine g_iinc (L1 := [some (rv w 1), some (iv a1), some (iv a2), some (iv a3), some (iv x10), some (iv (wr (x15 + 1)))]) C dX10_addWay_125 rfl rfl (Nat.le_of_ble_eq_true rfl) rfl ?_
                refine g_goto C dX10_addWay_128 rfl (tgt := 56) ?_
                obtain rfl := Option.some.inj h
                exact ih14 _ _ (iwr _) (lpL hk14)
          exact hL14 FU _ _ (by decide) hb14
    exact hL9 FU _ _ (by decide) hb9
  · have h := ifF c2 h
    refine g_iconst C dX10_addWay_9 ?_
    exact g_iretP C dX10_addWay_10 hr hlk h (by decide)
