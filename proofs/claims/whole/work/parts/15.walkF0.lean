theorem dX12_thrown_0 : decode cX12_thrown 0 = .ok (.aload_n 0, 1) := by decide +kernel
theorem dX12_thrown_1 : decode cX12_thrown 1 = .ok (.getfield 1, 3) := by decide +kernel
theorem dX12_thrown_4 : decode cX12_thrown 4 = .ok (.ireturn, 1) := by decide +kernel
abbrev rm_X12_thrown : Room := { frames := 0, cells := 0, slots := 0, locals := 0 }
set_option maxRecDepth 100000 in
set_option maxHeartbeats 4000000 in
theorem ct_X12_thrown {w : Wd} {l : Launch} {σ : St} {y : Int} (h : m_X12_thrown σ = some y) : Ct w l yX12_thrown (Cond.code yX12_thrown cX12_thrown 1 (some .int) :: TB) rm_X12_thrown [rv w 170] σ (some (iv y)) (InI y) σ := by
  refine Ct.of2 [some (rv w 170)] 0 rfl pn_RX12 (Nat.le_of_ble_eq_true rfl) ?_
  intro p e s m args below meth c C hr hlk
  unfold m_X12_thrown at h
  refine g_aload_n C dX12_thrown_0 rfl ?_
  refine g_getI (j := 0) C dX12_thrown_1 rfl (Nat.le_of_ble_eq_true rfl) (Nat.le_of_ble_eq_true rfl) fl_12_1 rfl rfl (fun i1 => ?_)
  exact g_iretU C dX12_thrown_4 hr hlk h i1
theorem dX12_put_0 : decode cX12_put 0 = .ok (.bipush 24, 2) := by decide +kernel
theorem dX12_put_2 : decode cX12_put 2 = .ok (.istore_n 2, 1) := by decide +kernel
theorem dX12_put_3 : decode cX12_put 3 = .ok (.iload_n 2, 1) := by decide +kernel
theorem dX12_put_4 : decode cX12_put 4 = .ok (.ifCond .lt 32, 3) := by decide +kernel
theorem dX12_put_7 : decode cX12_put 7 = .ok (.aload_n 0, 1) := by decide +kernel
theorem dX12_put_8 : decode cX12_put 8 = .ok (.getfield 13, 3) := by decide +kernel
theorem dX12_put_11 : decode cX12_put 11 = .ok (.aload_n 0, 1) := by decide +kernel
theorem dX12_put_12 : decode cX12_put 12 = .ok (.getfield 222, 3) := by decide +kernel
theorem dX12_put_15 : decode cX12_put 15 = .ok (.iload_n 1, 1) := by decide +kernel
theorem dX12_put_16 : decode cX12_put 16 = .ok (.iload_n 2, 1) := by decide +kernel
theorem dX12_put_17 : decode cX12_put 17 = .ok (.ishr, 1) := by decide +kernel
theorem dX12_put_18 : decode cX12_put 18 = .ok (.i2b, 1) := by decide +kernel
theorem dX12_put_19 : decode cX12_put 19 = .ok (.bastore, 1) := by decide +kernel
theorem dX12_put_20 : decode cX12_put 20 = .ok (.aload_n 0, 1) := by decide +kernel
theorem dX12_put_21 : decode cX12_put 21 = .ok (.dup, 1) := by decide +kernel
theorem dX12_put_22 : decode cX12_put 22 = .ok (.getfield 222, 3) := by decide +kernel
theorem dX12_put_25 : decode cX12_put 25 = .ok (.iconst 1, 1) := by decide +kernel
theorem dX12_put_26 : decode cX12_put 26 = .ok (.iadd, 1) := by decide +kernel
theorem dX12_put_27 : decode cX12_put 27 = .ok (.putfield 222, 3) := by decide +kernel
theorem dX12_put_30 : decode cX12_put 30 = .ok (.iinc 2 (-8), 3) := by decide +kernel
theorem dX12_put_33 : decode cX12_put 33 = .ok (.goto (-30), 3) := by decide +kernel
theorem dX12_put_36 : decode cX12_put 36 = .ok (.return_, 1) := by decide +kernel
abbrev rm_X12_put : Room := { frames := 0, cells := 0, slots := 0, locals := 0 }
set_option maxRecDepth 100000 in
set_option maxHeartbeats 4000000 in
theorem ct_X12_put {w : Wd} {l : Launch} {a1 : Int} {σ : St} {σ' : St} (ia1 : InI a1) (h : m_X12_put a1 σ = some σ') : Ct w l yX12_put (Cond.code yX12_put cX12_put 3 none :: TB) rm_X12_put [rv w 170, iv a1] σ none True σ' := by
  refine Ct.of2 [some (rv w 170), some (iv a1), none] 1 rfl pn_RX12 (Nat.le_of_ble_eq_true rfl) ?_
  intro p e s m args below meth c C hr hlk
  unfold m_X12_put at h
  refine g_bipush C dX12_put_0 rfl ?_
  refine g_istore_n (L1 := [some (rv w 170), some (iv a1), some (iv 24)]) C dX12_put_2 rfl (Nat.le_of_ble_eq_true rfl) rfl ?_
  obtain ⟨b1, hb1, hF1⟩ := bnd h
  have hX1 : ∀ (σ9 : St) , σ9 = b1 → GM w p l e rm_X12_put s m args below meth c none True σ' 3 36 [none, none, none] [] σ9 := by
    intro σ9 q
    subst q
    have h := hF1
    exact g_vretP C dX12_put_36 hr hlk h
  have hL1 : ∀ (n : Nat) (x2 : Int) (σ3 : St) , InI x2 → lpN (fun a => m_X12_put_L3 a1 a.1 a.2) n (x2, σ3) = some b1 → GM w p l e rm_X12_put s m args below meth c none True σ' 3 3 [some (rv w 170), some (iv a1), some (iv x2)] [] σ3 := by
    intro n
    induction n with
    | zero => intro x2 σ3 ix2 q; cases q
    | succ n ih1 =>
      intro x2 σ3 ix2 q
      obtain ⟨o1, h, hk1⟩ := lp_step q
      replace h : m_X12_put_L3 a1 x2 σ3 = some o1 := h
      unfold m_X12_put_L3 at h
      refine g_iload_n C dX12_put_3 rfl ?_
      refine g_if_lt C dX12_put_4 ix2 rfl (tgt := 36) (fun c4 => ?_) (fun c4 => ?_)
      · have h := ifT c4 h
        refine g_mask [false, false, false] ?_
        obtain rfl := Option.some.inj h
        exact hX1 σ3 (lpR hk1).symm
      · have h := ifF c4 h
        refine g_aload_n C dX12_put_7 rfl ?_
        refine g_getR (j := 1) C dX12_put_8 rfl (Nat.le_of_ble_eq_true rfl) (Nat.le_of_ble_eq_true rfl) fl_12_13 rfl rfl (r := 171) rfl ?_
        refine g_aload_n C dX12_put_11 rfl ?_
        refine g_getI (j := 2) C dX12_put_12 rfl (Nat.le_of_ble_eq_true rfl) (Nat.le_of_ble_eq_true rfl) fl_12_222 rfl rfl (fun i5 => ?_)
        refine g_iload_n C dX12_put_15 rfl ?_
        refine g_iload_n C dX12_put_16 rfl ?_
        refine g_ishr C dX12_put_17 ?_
        refine g_i2b C dX12_put_18 ?_
        obtain ⟨σ6, qσ6, h⟩ := bnd h
        refine g_bast C dX12_put_19 rfl rfl qσ6 i5 (ii2bB _) ?_
        refine g_aload_n C dX12_put_20 rfl ?_
        refine g_dup C dX12_put_21 rfl ?_
        refine g_getI (j := 2) C dX12_put_22 rfl (Nat.le_of_ble_eq_true rfl) (Nat.le_of_ble_eq_true rfl) fl_12_222 rfl rfl (fun i7 => ?_)
        refine g_iconst C dX12_put_25 ?_
        refine g_iadd C dX12_put_26 ?_
        obtain ⟨σ8, qσ8, h⟩ := bnd h
        refine g_putI (j := 2) C dX12_put_27 rfl (Nat.le_of_ble_eq_true rfl) (Nat.le_of_ble_eq_true rfl) fl_12_222 rfl rfl rfl rfl qσ8 (iwr _) ?_
        refine g_iinc (L1 := [some (rv w 170), some (iv a1), some (iv (wr (x2 + (-8))))]) C dX12_put_30 rfl rfl (Nat.le_of_ble_eq_true rfl) rfl ?_
        refine g_goto C dX12_put_33 rfl (tgt := 3) ?_
        obtain rfl := Option.some.inj h
        exact ih1 _ _ (iwr _) (lpL hk1)
  exact hL1 FU _ _ (by decide) hb1
theorem dX12_feed_0 : decode cX12_feed 0 = .ok (.aload_n 0, 1) := by decide +kernel
theorem dX12_feed_1 : decode cX12_feed 1 = .ok (.iconst 0, 1) := by decide +kernel
theorem dX12_feed_2 : decode cX12_feed 2 = .ok (.putfield 1, 3) := by decide +kernel
theorem dX12_feed_5 : decode cX12_feed 5 = .ok (.aload_n 0, 1) := by decide +kernel
theorem dX12_feed_6 : decode cX12_feed 6 = .ok (.getfield 222, 3) := by decide +kernel
theorem dX12_feed_9 : decode cX12_feed 9 = .ok (.bipush 20, 2) := by decide +kernel
theorem dX12_feed_11 : decode cX12_feed 11 = .ok (.iadd, 1) := by decide +kernel
theorem dX12_feed_12 : decode cX12_feed 12 = .ok (.sipush 2000, 3) := by decide +kernel
theorem dX12_feed_15 : decode cX12_feed 15 = .ok (.if_icmp .le 5, 3) := by decide +kernel
theorem dX12_feed_18 : decode cX12_feed 18 = .ok (.iconst (-1), 1) := by decide +kernel
theorem dX12_feed_19 : decode cX12_feed 19 = .ok (.ireturn, 1) := by decide +kernel
theorem dX12_feed_20 : decode cX12_feed 20 = .ok (.aload_n 0, 1) := by decide +kernel
theorem dX12_feed_21 : decode cX12_feed 21 = .ok (.iload_n 1, 1) := by decide +kernel
theorem dX12_feed_22 : decode cX12_feed 22 = .ok (.invokevirtual 225, 3) := by decide +kernel
theorem dX12_feed_25 : decode cX12_feed 25 = .ok (.aload_n 0, 1) := by decide +kernel
theorem dX12_feed_26 : decode cX12_feed 26 = .ok (.iload_n 2, 1) := by decide +kernel
theorem dX12_feed_27 : decode cX12_feed 27 = .ok (.invokevirtual 225, 3) := by decide +kernel
theorem dX12_feed_30 : decode cX12_feed 30 = .ok (.aload_n 0, 1) := by decide +kernel
theorem dX12_feed_31 : decode cX12_feed 31 = .ok (.iload_n 3, 1) := by decide +kernel
theorem dX12_feed_32 : decode cX12_feed 32 = .ok (.invokevirtual 225, 3) := by decide +kernel
theorem dX12_feed_35 : decode cX12_feed 35 = .ok (.aload_n 0, 1) := by decide +kernel
theorem dX12_feed_36 : decode cX12_feed 36 = .ok (.iload 4, 2) := by decide +kernel
theorem dX12_feed_38 : decode cX12_feed 38 = .ok (.invokevirtual 225, 3) := by decide +kernel
theorem dX12_feed_41 : decode cX12_feed 41 = .ok (.aload_n 0, 1) := by decide +kernel
theorem dX12_feed_42 : decode cX12_feed 42 = .ok (.iload 5, 2) := by decide +kernel
theorem dX12_feed_44 : decode cX12_feed 44 = .ok (.invokevirtual 225, 3) := by decide +kernel
theorem dX12_feed_47 : decode cX12_feed 47 = .ok (.aload_n 0, 1) := by decide +kernel
theorem dX12_feed_48 : decode cX12_feed 48 = .ok (.getfield 222, 3) := by decide +kernel
theorem dX12_feed_51 : decode cX12_feed 51 = .ok (.ireturn, 1) := by decide +kernel
abbrev rm_X12_feed : Room := { frames := 1, cells := 0, slots := 0, locals := 22 }
set_option maxRecDepth 100000 in
set_option maxHeartbeats 4000000 in
theorem ct_X12_feed {w : Wd} {l : Launch} {a1 : Int} {a2 : Int} {a3 : Int} {a4 : Int} {a5 : Int} {σ : St} {y : Int} {σ' : St} (ia1 : InI a1) (ia2 : InI a2) (ia3 : InI a3) (ia4 : InI a4) (ia5 : InI a5) (h : m_X12_feed a1 a2 a3 a4 a5 σ = some (y, σ')) : Ct w l yX12_feed (Cond.code yX12_feed cX12_feed 6 (some .int) :: TB) rm_X12_feed [rv w 170, iv a1, iv a2, iv a3, iv a4, iv a5] σ (some (iv y)) (InI y) σ' := by
  refine Ct.of2 [some (rv w 170), some (iv a1), some (iv a2), some (iv a3), some (iv a4), some (iv a5)] 0 rfl pn_RX12 (Nat.le_of_ble_eq_true rfl) ?_
  intro p e s m args below meth c C hr hlk
  unfold m_X12_feed at h
  refine g_aload_n C dX12_feed_0 rfl ?_
  refine g_iconst C dX12_feed_1 ?_
  obtain ⟨σ1, qσ1, h⟩ := bnd h
  refine g_putI (j := 0) C dX12_feed_2 rfl (Nat.le_of_ble_eq_true rfl) (Nat.le_of_ble_eq_true rfl) fl_12_1 rfl rfl rfl rfl qσ1 (by decide) ?_
  refine g_aload_n C dX12_feed_5 rfl ?_
  refine g_getI (j := 2) C dX12_feed_6 rfl (Nat.le_of_ble_eq_true rfl) (Nat.le_of_ble_eq_true rfl) fl_12_222 rfl rfl (fun i2 => ?_)
  refine g_bipush C dX12_feed_9 rfl ?_
  refine g_iadd C dX12_feed_11 ?_
  refine g_sipush C dX12_feed_12 rfl ?_
  refine g_icmp_le C dX12_feed_15 (iwr _) (by decide) rfl (tgt := 20) (fun c3 => ?_) (fun c3 => ?_)
  · have h := ifT c3 h
    refine g_aload_n C dX12_feed_20 rfl ?_
    refine g_iload_n C dX12_feed_21 rfl ?_
    obtain ⟨σ4, qσ4, h⟩ := bnd h
    refine g_callV0 (As := [iv a1]) C dX12_feed_22 mi_X12_put ml_12_225 (ct_X12_put ia1 qσ4) rfl rfl ⟨rfl, rfl⟩ ⟨Nat.le_of_ble_eq_true rfl, Nat.le_of_ble_eq_true rfl⟩ ⟨Nat.zero_le _, Nat.zero_le _⟩ rfl (Nat.le_of_ble_eq_true rfl) (fun _ => ?_)
    refine g_aload_n C dX12_feed_25 rfl ?_
    refine g_iload_n C dX12_feed_26 rfl ?_
    obtain ⟨σ5, qσ5, h⟩ := bnd h
    refine g_callV0 (As := [iv a2]) C dX12_feed_27 mi_X12_put ml_12_225 (ct_X12_put ia2 qσ5) rfl rfl ⟨rfl, rfl⟩ ⟨Nat.le_of_ble_eq_true rfl, Nat.le_of_ble_eq_true rfl⟩ ⟨Nat.zero_le _, Nat.zero_le _⟩ rfl (Nat.le_of_ble_eq_true rfl) (fun _ => ?_)
    refine g_aload_n C dX12_feed_30 rfl ?_
    refine g_iload_n C dX12_feed_31 rfl ?_
    obtain ⟨σ6, qσ6, h⟩ := bnd h
    refine g_callV0 (As := [iv a3]) C dX12_feed_32 mi_X12_put ml_12_225 (ct_X12_put ia3 qσ6) rfl rfl ⟨rfl, rfl⟩ ⟨Nat.le_of_ble_eq_true rfl, Nat.le_of_ble_eq_true rfl⟩ ⟨Nat.zero_le _, Nat.zero_le _⟩ rfl (Nat.le_of_ble_eq_true rfl) (fun _ => ?_)
    refine g_aload_n C dX12_feed_35 rfl ?_
    refine g_iload C dX12_feed_36 rfl ?_
    obtain ⟨σ7, qσ7, h⟩ := bnd h
    refine g_callV0 (As := [iv a4]) C dX12_feed_38 mi_X12_put ml_12_225 (ct_X12_put ia4 qσ7) rfl rfl ⟨rfl, rfl⟩ ⟨Nat.le_of_ble_eq_true rfl, Nat.le_of_ble_eq_true rfl⟩ ⟨Nat.zero_le _, Nat.zero_le _⟩ rfl (Nat.le_of_ble_eq_true rfl) (fun _ => ?_)
    refine g_aload_n C dX12_feed_41 rfl ?_
    refine g_iload C dX12_feed_42 rfl ?_
    obtain ⟨σ8, qσ8, h⟩ := bnd h
    refine g_callV0 (As := [iv a5]) C dX12_feed_44 mi_X12_put ml_12_225 (ct_X12_put ia5 qσ8) rfl rfl ⟨rfl, rfl⟩ ⟨Nat.le_of_ble_eq_true rfl, Nat.le_of_ble_eq_true rfl⟩ ⟨Nat.zero_le _, Nat.zero_le _⟩ rfl (Nat.le_of_ble_eq_true rfl) (fun _ => ?_)
    refine g_aload_n C dX12_feed_47 rfl ?_
    refine g_getI (j := 2) C dX12_feed_48 rfl (Nat.le_of_ble_eq_true rfl) (Nat.le_of_ble_eq_true rfl) fl_12_222 rfl rfl (fun i9 => ?_)
    exact g_iretP C dX12_feed_51 hr hlk h i9
  · have h := ifF c3 h
    refine g_iconst C dX12_feed_18 ?_
    exact g_iretP C dX12_feed_19 hr hlk h (by decide)
theorem dX12_back_0 : decode cX12_back 0 = .ok (.aload_n 0, 1) := by decide +kernel
theorem dX12_back_1 : decode cX12_back 1 = .ok (.iconst 0, 1) := by decide +kernel
theorem dX12_back_2 : decode cX12_back 2 = .ok (.putfield 1, 3) := by decide +kernel
theorem dX12_back_5 : decode cX12_back 5 = .ok (.iload_n 1, 1) := by decide +kernel
theorem dX12_back_6 : decode cX12_back 6 = .ok (.ifCond .lt 11, 3) := by decide +kernel
theorem dX12_back_9 : decode cX12_back 9 = .ok (.iload_n 1, 1) := by decide +kernel
theorem dX12_back_10 : decode cX12_back 10 = .ok (.aload_n 0, 1) := by decide +kernel
theorem dX12_back_11 : decode cX12_back 11 = .ok (.getfield 222, 3) := by decide +kernel
theorem dX12_back_14 : decode cX12_back 14 = .ok (.if_icmp .le 5, 3) := by decide +kernel
theorem dX12_back_17 : decode cX12_back 17 = .ok (.iconst (-1), 1) := by decide +kernel
theorem dX12_back_18 : decode cX12_back 18 = .ok (.ireturn, 1) := by decide +kernel
theorem dX12_back_19 : decode cX12_back 19 = .ok (.aload_n 0, 1) := by decide +kernel
theorem dX12_back_20 : decode cX12_back 20 = .ok (.dup, 1) := by decide +kernel
theorem dX12_back_21 : decode cX12_back 21 = .ok (.getfield 222, 3) := by decide +kernel
theorem dX12_back_24 : decode cX12_back 24 = .ok (.iload_n 1, 1) := by decide +kernel
theorem dX12_back_25 : decode cX12_back 25 = .ok (.isub, 1) := by decide +kernel
theorem dX12_back_26 : decode cX12_back 26 = .ok (.putfield 222, 3) := by decide +kernel
theorem dX12_back_29 : decode cX12_back 29 = .ok (.aload_n 0, 1) := by decide +kernel
theorem dX12_back_30 : decode cX12_back 30 = .ok (.getfield 222, 3) := by decide +kernel
theorem dX12_back_33 : decode cX12_back 33 = .ok (.ireturn, 1) := by decide +kernel
abbrev rm_X12_back : Room := { frames := 0, cells := 0, slots := 0, locals := 0 }
set_option maxRecDepth 100000 in
set_option maxHeartbeats 4000000 in
theorem ct_X12_back {w : Wd} {l : Launch} {a1 : Int} {σ : St} {y : Int} {σ' : St} (ia1 : InI a1) (h : m_X12_back a1 σ = some (y, σ')) : Ct w l yX12_back (Cond.code yX12_back cX12_back 2 (some .int) :: TB) rm_X12_back [rv w 170, iv a1] σ (some (iv y)) (InI y) σ' := by
  refine Ct.of2 [some (rv w 170), some (iv a1)] 0 rfl pn_RX12 (Nat.le_of_ble_eq_true rfl) ?_
  intro p e s m args below meth c C hr hlk
  unfold m_X12_back at h
  refine g_aload_n C dX12_back_0 rfl ?_
  refine g_iconst C dX12_back_1 ?_
  obtain ⟨σ1, qσ1, h⟩ := bnd h
  refine g_putI (j := 0) C dX12_back_2 rfl (Nat.le_of_ble_eq_true rfl) (Nat.le_of_ble_eq_true rfl) fl_12_1 rfl rfl rfl rfl qσ1 (by decide) ?_
  refine g_iload_n C dX12_back_5 rfl ?_
  refine g_if_lt C dX12_back_6 ia1 rfl (tgt := 17) (fun c2 => ?_) (fun c2 => ?_)
  · have h := ifT c2 h
    refine g_iconst C dX12_back_17 ?_
    exact g_iretP C dX12_back_18 hr hlk h (by decide)
  · have h := ifF c2 h
    refine g_iload_n C dX12_back_9 rfl ?_
    refine g_aload_n C dX12_back_10 rfl ?_
    refine g_getI (j := 2) C dX12_back_11 rfl (Nat.le_of_ble_eq_true rfl) (Nat.le_of_ble_eq_true rfl) fl_12_222 rfl rfl (fun i3 => ?_)
    refine g_icmp_le C dX12_back_14 ia1 i3 rfl (tgt := 19) (fun c4 => ?_) (fun c4 => ?_)
    · have h := ifT c4 h
      refine g_aload_n C dX12_back_19 rfl ?_
      refine g_dup C dX12_back_20 rfl ?_
      refine g_getI (j := 2) C dX12_back_21 rfl (Nat.le_of_ble_eq_true rfl) (Nat.le_of_ble_eq_true rfl) fl_12_222 rfl rfl (fun i5 => ?_)
      refine g_iload_n C dX12_back_24 rfl ?_
      refine g_isub C dX12_back_25 ?_
      obtain ⟨σ6, qσ6, h⟩ := bnd h
      refine g_putI (j := 2) C dX12_back_26 rfl (Nat.le_of_ble_eq_true rfl) (Nat.le_of_ble_eq_true rfl) fl_12_222 rfl rfl rfl rfl qσ6 (iwr _) ?_
      refine g_aload_n C dX12_back_29 rfl ?_
      refine g_getI (j := 2) C dX12_back_30 rfl (Nat.le_of_ble_eq_true rfl) (Nat.le_of_ble_eq_true rfl) fl_12_222 rfl rfl (fun i7 => ?_)
      exact g_iretP C dX12_back_33 hr hlk h i7
    · have h := ifF c4 h
      refine g_iconst C dX12_back_17 ?_
      exact g_iretP C dX12_back_18 hr hlk h (by decide)
theorem dX12_at_0 : decode cX12_at 0 = .ok (.iload_n 1, 1) := by decide +kernel
theorem dX12_at_1 : decode cX12_at 1 = .ok (.aload_n 0, 1) := by decide +kernel
theorem dX12_at_2 : decode cX12_at 2 = .ok (.getfield 229, 3) := by decide +kernel
theorem dX12_at_5 : decode cX12_at 5 = .ok (.if_icmp .ge 16, 3) := by decide +kernel
theorem dX12_at_8 : decode cX12_at 8 = .ok (.aload_n 0, 1) := by decide +kernel
theorem dX12_at_9 : decode cX12_at 9 = .ok (.getfield 17, 3) := by decide +kernel
theorem dX12_at_12 : decode cX12_at 12 = .ok (.iload_n 1, 1) := by decide +kernel
theorem dX12_at_13 : decode cX12_at 13 = .ok (.baload, 1) := by decide +kernel
theorem dX12_at_14 : decode cX12_at 14 = .ok (.sipush 255, 3) := by decide +kernel
theorem dX12_at_17 : decode cX12_at 17 = .ok (.iand, 1) := by decide +kernel
theorem dX12_at_18 : decode cX12_at 18 = .ok (.goto 4, 3) := by decide +kernel
theorem dX12_at_21 : decode cX12_at 21 = .ok (.iconst 0, 1) := by decide +kernel
theorem dX12_at_22 : decode cX12_at 22 = .ok (.ireturn, 1) := by decide +kernel
abbrev rm_X12_at : Room := { frames := 0, cells := 0, slots := 0, locals := 0 }
set_option maxRecDepth 100000 in
set_option maxHeartbeats 4000000 in
theorem ct_X12_at {w : Wd} {l : Launch} {a1 : Int} {σ : St} {y : Int} (ia1 : InI a1) (h : m_X12_at a1 σ = some y) : Ct w l yX12_at (Cond.code yX12_at cX12_at 2 (some .int) :: TB) rm_X12_at [rv w 170, iv a1] σ (some (iv y)) (InI y) σ := by
  refine Ct.of2 [some (rv w 170), some (iv a1)] 0 rfl pn_RX12 (Nat.le_of_ble_eq_true rfl) ?_
  intro p e s m args below meth c C hr hlk
  unfold m_X12_at at h
  refine g_iload_n C dX12_at_0 rfl ?_
  refine g_aload_n C dX12_at_1 rfl ?_
  refine g_getI (j := 4) C dX12_at_2 rfl (Nat.le_of_ble_eq_true rfl) (Nat.le_of_ble_eq_true rfl) fl_12_229 rfl rfl (fun i1 => ?_)
  refine g_icmp_ge C dX12_at_5 ia1 i1 rfl (tgt := 21) (fun c2 => ?_) (fun c2 => ?_)
  · have h := ifT c2 h
    refine g_iconst C dX12_at_21 ?_
    exact g_iretU C dX12_at_22 hr hlk h (by decide)
  · have h := ifF c2 h
    refine g_aload_n C dX12_at_8 rfl ?_
    refine g_getR (j := 3) C dX12_at_9 rfl (Nat.le_of_ble_eq_true rfl) (Nat.le_of_ble_eq_true rfl) fl_12_17 rfl rfl (r := 172) rfl ?_
    refine g_iload_n C dX12_at_12 rfl ?_
    obtain ⟨x3, qx3, h⟩ := bnd h
    refine g_bald C dX12_at_13 rfl rfl qx3 ia1 (fun ix3 => ?_)
    refine g_sipush C dX12_at_14 rfl ?_
    refine g_iand C dX12_at_17 ?_
    refine g_goto C dX12_at_18 rfl (tgt := 22) ?_
    exact g_iretU C dX12_at_22 hr hlk h (iand _ _)
theorem dX12_isDigit_0 : decode cX12_isDigit 0 = .ok (.iload_n 0, 1) := by decide +kernel
theorem dX12_isDigit_1 : decode cX12_isDigit 1 = .ok (.bipush 48, 2) := by decide +kernel
theorem dX12_isDigit_3 : decode cX12_isDigit 3 = .ok (.if_icmp .lt 13, 3) := by decide +kernel
theorem dX12_isDigit_6 : decode cX12_isDigit 6 = .ok (.iload_n 0, 1) := by decide +kernel
theorem dX12_isDigit_7 : decode cX12_isDigit 7 = .ok (.bipush 57, 2) := by decide +kernel
theorem dX12_isDigit_9 : decode cX12_isDigit 9 = .ok (.if_icmp .gt 7, 3) := by decide +kernel
theorem dX12_isDigit_12 : decode cX12_isDigit 12 = .ok (.iconst 1, 1) := by decide +kernel
theorem dX12_isDigit_13 : decode cX12_isDigit 13 = .ok (.goto 4, 3) := by decide +kernel
theorem dX12_isDigit_16 : decode cX12_isDigit 16 = .ok (.iconst 0, 1) := by decide +kernel
theorem dX12_isDigit_17 : decode cX12_isDigit 17 = .ok (.ireturn, 1) := by decide +kernel
abbrev rm_X12_isDigit : Room := { frames := 0, cells := 0, slots := 0, locals := 0 }
set_option maxRecDepth 100000 in
set_option maxHeartbeats 4000000 in
theorem ct_X12_isDigit {w : Wd} {l : Launch} {a1 : Int} {σ : St} {y : Int} (ia1 : InI a1) (h : m_X12_isDigit a1 σ = some y) : Ct w l yX12_isDigit (Cond.code yX12_isDigit cX12_isDigit 1 (some .boolean) :: TB) rm_X12_isDigit [iv a1] σ (some (iv y)) (InZ y) σ := by
  refine Ct.of2 [some (iv a1)] 0 rfl pn_RX12 (Nat.le_of_ble_eq_true rfl) ?_
  intro p e s m args below meth c C hr hlk
  unfold m_X12_isDigit at h
  refine g_iload_n C dX12_isDigit_0 rfl ?_
  refine g_bipush C dX12_isDigit_1 rfl ?_
  refine g_icmp_lt C dX12_isDigit_3 ia1 (by decide) rfl (tgt := 16) (fun c1 => ?_) (fun c1 => ?_)
  · have h := ifT c1 h
    refine g_iconst C dX12_isDigit_16 ?_
    exact g_zretU C dX12_isDigit_17 hr hlk h (Or.inl rfl)
  · have h := ifF c1 h
    refine g_iload_n C dX12_isDigit_6 rfl ?_
    refine g_bipush C dX12_isDigit_7 rfl ?_
    refine g_icmp_gt C dX12_isDigit_9 ia1 (by decide) rfl (tgt := 16) (fun c2 => ?_) (fun c2 => ?_)
    · have h := ifT c2 h
      refine g_iconst C dX12_isDigit_16 ?_
      exact g_zretU C dX12_isDigit_17 hr hlk h (Or.inl rfl)
    · have h := ifF c2 h
      refine g_iconst C dX12_isDigit_12 ?_
      refine g_goto C dX12_isDigit_13 rfl (tgt := 17) ?_
      exact g_zretU C dX12_isDigit_17 hr hlk h (Or.inr rfl)
theorem dX12_isLetter_0 : decode cX12_isLetter 0 = .ok (.iload_n 0, 1) := by decide +kernel
theorem dX12_isLetter_1 : decode cX12_isLetter 1 = .ok (.bipush 97, 2) := by decide +kernel
theorem dX12_isLetter_3 : decode cX12_isLetter 3 = .ok (.if_icmp .lt 13, 3) := by decide +kernel
theorem dX12_isLetter_6 : decode cX12_isLetter 6 = .ok (.iload_n 0, 1) := by decide +kernel
theorem dX12_isLetter_7 : decode cX12_isLetter 7 = .ok (.bipush 122, 2) := by decide +kernel
theorem dX12_isLetter_9 : decode cX12_isLetter 9 = .ok (.if_icmp .gt 7, 3) := by decide +kernel
theorem dX12_isLetter_12 : decode cX12_isLetter 12 = .ok (.iconst 1, 1) := by decide +kernel
theorem dX12_isLetter_13 : decode cX12_isLetter 13 = .ok (.goto 4, 3) := by decide +kernel
theorem dX12_isLetter_16 : decode cX12_isLetter 16 = .ok (.iconst 0, 1) := by decide +kernel
theorem dX12_isLetter_17 : decode cX12_isLetter 17 = .ok (.ireturn, 1) := by decide +kernel
abbrev rm_X12_isLetter : Room := { frames := 0, cells := 0, slots := 0, locals := 0 }
set_option maxRecDepth 100000 in
set_option maxHeartbeats 4000000 in
theorem ct_X12_isLetter {w : Wd} {l : Launch} {a1 : Int} {σ : St} {y : Int} (ia1 : InI a1) (h : m_X12_isLetter a1 σ = some y) : Ct w l yX12_isLetter (Cond.code yX12_isLetter cX12_isLetter 1 (some .boolean) :: TB) rm_X12_isLetter [iv a1] σ (some (iv y)) (InZ y) σ := by
  refine Ct.of2 [some (iv a1)] 0 rfl pn_RX12 (Nat.le_of_ble_eq_true rfl) ?_
  intro p e s m args below meth c C hr hlk
  unfold m_X12_isLetter at h
  refine g_iload_n C dX12_isLetter_0 rfl ?_
  refine g_bipush C dX12_isLetter_1 rfl ?_
  refine g_icmp_lt C dX12_isLetter_3 ia1 (by decide) rfl (tgt := 16) (fun c1 => ?_) (fun c1 => ?_)
  · have h := ifT c1 h
    refine g_iconst C dX12_isLetter_16 ?_
    exact g_zretU C dX12_isLetter_17 hr hlk h (Or.inl rfl)
  · have h := ifF c1 h
    refine g_iload_n C dX12_isLetter_6 rfl ?_
    refine g_bipush C dX12_isLetter_7 rfl ?_
    refine g_icmp_gt C dX12_isLetter_9 ia1 (by decide) rfl (tgt := 16) (fun c2 => ?_) (fun c2 => ?_)
    · have h := ifT c2 h
      refine g_iconst C dX12_isLetter_16 ?_
      exact g_zretU C dX12_isLetter_17 hr hlk h (Or.inl rfl)
    · have h := ifF c2 h
      refine g_iconst C dX12_isLetter_12 ?_
      refine g_goto C dX12_isLetter_13 rfl (tgt := 17) ?_
      exact g_zretU C dX12_isLetter_17 hr hlk h (Or.inr rfl)
theorem dX12_more_0 : decode cX12_more 0 = .ok (.iload_n 2, 1) := by decide +kernel
theorem dX12_more_1 : decode cX12_more 1 = .ok (.ifCond .ne 7, 3) := by decide +kernel
theorem dX12_more_4 : decode cX12_more 4 = .ok (.lload_n 0, 1) := by decide +kernel
theorem dX12_more_5 : decode cX12_more 5 = .ok (.goto 16, 3) := by decide +kernel
theorem dX12_more_8 : decode cX12_more 8 = .ok (.ldc2_w 232, 3) := by decide +kernel
theorem dX12_more_11 : decode cX12_more 11 = .ok (.lload_n 0, 1) := by decide +kernel
theorem dX12_more_12 : decode cX12_more 12 = .ok (.lmul, 1) := by decide +kernel
theorem dX12_more_13 : decode cX12_more 13 = .ok (.iload_n 2, 1) := by decide +kernel
theorem dX12_more_14 : decode cX12_more 14 = .ok (.bipush 97, 2) := by decide +kernel
theorem dX12_more_16 : decode cX12_more 16 = .ok (.isub, 1) := by decide +kernel
theorem dX12_more_17 : decode cX12_more 17 = .ok (.iconst 1, 1) := by decide +kernel
theorem dX12_more_18 : decode cX12_more 18 = .ok (.iadd, 1) := by decide +kernel
theorem dX12_more_19 : decode cX12_more 19 = .ok (.i2l, 1) := by decide +kernel
theorem dX12_more_20 : decode cX12_more 20 = .ok (.ladd, 1) := by decide +kernel
theorem dX12_more_21 : decode cX12_more 21 = .ok (.lreturn, 1) := by decide +kernel
abbrev rm_X12_more : Room := { frames := 0, cells := 0, slots := 0, locals := 0 }
set_option maxRecDepth 100000 in
set_option maxHeartbeats 4000000 in
theorem ct_X12_more {w : Wd} {l : Launch} {a1 : Int} {a2 : Int} {σ : St} {y : Int} (ia1 : InL a1) (ia2 : InI a2) (h : m_X12_more a1 a2 σ = some y) : Ct w l yX12_more (Cond.code yX12_more cX12_more 3 (some .long) :: TB) rm_X12_more [jv a1, iv a2] σ (some (jv y)) (InL y) σ := by
  refine Ct.of2 [some (jv a1), none, some (iv a2)] 0 rfl pn_RX12 (Nat.le_of_ble_eq_true rfl) ?_
  intro p e s m args below meth c C hr hlk
  unfold m_X12_more at h
  refine g_iload_n C dX12_more_0 rfl ?_
  refine g_if_ne C dX12_more_1 ia2 rfl (tgt := 8) (fun c1 => ?_) (fun c1 => ?_)
  · have h := ifF c1 h
    refine g_ldc2 (n := 27) C dX12_more_8 rfl kl_12_232 ?_
    refine g_lload_n C dX12_more_11 rfl ?_
    refine g_lmul C dX12_more_12 ?_
    refine g_iload_n C dX12_more_13 rfl ?_
    refine g_bipush C dX12_more_14 rfl ?_
    refine g_isub C dX12_more_16 ?_
    refine g_iconst C dX12_more_17 ?_
    refine g_iadd C dX12_more_18 ?_
    refine g_i2l C dX12_more_19 (iwr _) ?_
    refine g_ladd C dX12_more_20 ?_
    exact g_lretU C dX12_more_21 hr hlk h (iwl _)
  · have h := ifT c1 h
    refine g_lload_n C dX12_more_4 rfl ?_
    refine g_goto C dX12_more_5 rfl (tgt := 21) ?_
    exact g_lretU C dX12_more_21 hr hlk h ia1
theorem dX12_word_0 : decode cX12_word 0 = .ok (.lconst 0, 1) := by decide +kernel
theorem dX12_word_1 : decode cX12_word 1 = .ok (.iload_n 0, 1) := by decide +kernel
theorem dX12_word_2 : decode cX12_word 2 = .ok (.invokestatic 234, 3) := by decide +kernel
theorem dX12_word_5 : decode cX12_word 5 = .ok (.iload_n 1, 1) := by decide +kernel
theorem dX12_word_6 : decode cX12_word 6 = .ok (.invokestatic 234, 3) := by decide +kernel
theorem dX12_word_9 : decode cX12_word 9 = .ok (.iload_n 2, 1) := by decide +kernel
theorem dX12_word_10 : decode cX12_word 10 = .ok (.invokestatic 234, 3) := by decide +kernel
theorem dX12_word_13 : decode cX12_word 13 = .ok (.iload_n 3, 1) := by decide +kernel
theorem dX12_word_14 : decode cX12_word 14 = .ok (.invokestatic 234, 3) := by decide +kernel
theorem dX12_word_17 : decode cX12_word 17 = .ok (.iload 4, 2) := by decide +kernel
theorem dX12_word_19 : decode cX12_word 19 = .ok (.invokestatic 234, 3) := by decide +kernel
theorem dX12_word_22 : decode cX12_word 22 = .ok (.iload 5, 2) := by decide +kernel
theorem dX12_word_24 : decode cX12_word 24 = .ok (.invokestatic 234, 3) := by decide +kernel
theorem dX12_word_27 : decode cX12_word 27 = .ok (.iload 6, 2) := by decide +kernel
theorem dX12_word_29 : decode cX12_word 29 = .ok (.invokestatic 234, 3) := by decide +kernel
theorem dX12_word_32 : decode cX12_word 32 = .ok (.lreturn, 1) := by decide +kernel
abbrev rm_X12_word : Room := { frames := 1, cells := 0, slots := 0, locals := 22 }
set_option maxRecDepth 100000 in
set_option maxHeartbeats 4000000 in
theorem ct_X12_word {w : Wd} {l : Launch} {a1 : Int} {a2 : Int} {a3 : Int} {a4 : Int} {a5 : Int} {a6 : Int} {a7 : Int} {σ : St} {y : Int} (ia1 : InI a1) (ia2 : InI a2) (ia3 : InI a3) (ia4 : InI a4) (ia5 : InI a5) (ia6 : InI a6) (ia7 : InI a7) (h : m_X12_word a1 a2 a3 a4 a5 a6 a7 σ = some y) : Ct w l yX12_word (Cond.code yX12_word cX12_word 7 (some .long) :: TB) rm_X12_word [iv a1, iv a2, iv a3, iv a4, iv a5, iv a6, iv a7] σ (some (jv y)) (InL y) σ := by
  refine Ct.of2 [some (iv a1), some (iv a2), some (iv a3), some (iv a4), some (iv a5), some (iv a6), some (iv a7)] 0 rfl pn_RX12 (Nat.le_of_ble_eq_true rfl) ?_
  intro p e s m args below meth c C hr hlk
  unfold m_X12_word at h
  refine g_lconst0 C dX12_word_0 ?_
  refine g_iload_n C dX12_word_1 rfl ?_
  obtain ⟨x1, qx1, h⟩ := bnd h
  refine g_callS1 (As := [jv 0, iv a1]) C dX12_word_2 mi_X12_more ml_12_234 (ct_X12_more (by decide) ia1 qx1) rfl ⟨rfl, rfl⟩ ⟨Nat.le_of_ble_eq_true rfl, Nat.le_of_ble_eq_true rfl⟩ ⟨Nat.zero_le _, Nat.zero_le _⟩ rfl (Nat.le_of_ble_eq_true rfl) (fun ix1 => ?_)
  refine g_iload_n C dX12_word_5 rfl ?_
  obtain ⟨x2, qx2, h⟩ := bnd h
  refine g_callS1 (As := [jv x1, iv a2]) C dX12_word_6 mi_X12_more ml_12_234 (ct_X12_more ix1 ia2 qx2) rfl ⟨rfl, rfl⟩ ⟨Nat.le_of_ble_eq_true rfl, Nat.le_of_ble_eq_true rfl⟩ ⟨Nat.zero_le _, Nat.zero_le _⟩ rfl (Nat.le_of_ble_eq_true rfl) (fun ix2 => ?_)
  refine g_iload_n C dX12_word_9 rfl ?_
  obtain ⟨x3, qx3, h⟩ := bnd h
  refine g_callS1 (As := [jv x2, iv a3]) C dX12_word_10 mi_X12_more ml_12_234 (ct_X12_more ix2 ia3 qx3) rfl ⟨rfl, rfl⟩ ⟨Nat.le_of_ble_eq_true rfl, Nat.le_of_ble_eq_true rfl⟩ ⟨Nat.zero_le _, Nat.zero_le _⟩ rfl (Nat.le_of_ble_eq_true rfl) (fun ix3 => ?_)
  refine g_iload_n C dX12_word_13 rfl ?_
  obtain ⟨x4, qx4, h⟩ := bnd h
  refine g_callS1 (As := [jv x3, iv a4]) C dX12_word_14 mi_X12_more ml_12_234 (ct_X12_more ix3 ia4 qx4) rfl ⟨rfl, rfl⟩ ⟨Nat.le_of_ble_eq_true rfl, Nat.le_of_ble_eq_true rfl⟩ ⟨Nat.zero_le _, Nat.zero_le _⟩ rfl (Nat.le_of_ble_eq_true rfl) (fun ix4 => ?_)
  refine g_iload C dX12_word_17 rfl ?_
  obtain ⟨x5, qx5, h⟩ := bnd h
  refine g_callS1 (As := [jv x4, iv a5]) C dX12_word_19 mi_X12_more ml_12_234 (ct_X12_more ix4 ia5 qx5) rfl ⟨rfl, rfl⟩ ⟨Nat.le_of_ble_eq_true rfl, Nat.le_of_ble_eq_true rfl⟩ ⟨Nat.zero_le _, Nat.zero_le _⟩ rfl (Nat.le_of_ble_eq_true rfl) (fun ix5 => ?_)
  refine g_iload C dX12_word_22 rfl ?_
  obtain ⟨x6, qx6, h⟩ := bnd h
  refine g_callS1 (As := [jv x5, iv a6]) C dX12_word_24 mi_X12_more ml_12_234 (ct_X12_more ix5 ia6 qx6) rfl ⟨rfl, rfl⟩ ⟨Nat.le_of_ble_eq_true rfl, Nat.le_of_ble_eq_true rfl⟩ ⟨Nat.zero_le _, Nat.zero_le _⟩ rfl (Nat.le_of_ble_eq_true rfl) (fun ix6 => ?_)
  refine g_iload C dX12_word_27 rfl ?_
  obtain ⟨x7, qx7, h⟩ := bnd h
  refine g_callS1 (As := [jv x6, iv a7]) C dX12_word_29 mi_X12_more ml_12_234 (ct_X12_more ix6 ia7 qx7) rfl ⟨rfl, rfl⟩ ⟨Nat.le_of_ble_eq_true rfl, Nat.le_of_ble_eq_true rfl⟩ ⟨Nat.zero_le _, Nat.zero_le _⟩ rfl (Nat.le_of_ble_eq_true rfl) (fun ix7 => ?_)
  exact g_lretU C dX12_word_32 hr hlk h ix7
theorem dX12_token_0 : decode cX12_token 0 = .ok (.aload_n 0, 1) := by decide +kernel
theorem dX12_token_1 : decode cX12_token 1 = .ok (.getfield 20, 3) := by decide +kernel
theorem dX12_token_4 : decode cX12_token 4 = .ok (.aload_n 0, 1) := by decide +kernel
theorem dX12_token_5 : decode cX12_token 5 = .ok (.getfield 238, 3) := by decide +kernel
theorem dX12_token_8 : decode cX12_token 8 = .ok (.iload_n 1, 1) := by decide +kernel
theorem dX12_token_9 : decode cX12_token 9 = .ok (.iastore, 1) := by decide +kernel
theorem dX12_token_10 : decode cX12_token 10 = .ok (.aload_n 0, 1) := by decide +kernel
theorem dX12_token_11 : decode cX12_token 11 = .ok (.getfield 24, 3) := by decide +kernel
theorem dX12_token_14 : decode cX12_token 14 = .ok (.aload_n 0, 1) := by decide +kernel
theorem dX12_token_15 : decode cX12_token 15 = .ok (.getfield 238, 3) := by decide +kernel
theorem dX12_token_18 : decode cX12_token 18 = .ok (.iload_n 2, 1) := by decide +kernel
theorem dX12_token_19 : decode cX12_token 19 = .ok (.iastore, 1) := by decide +kernel
theorem dX12_token_20 : decode cX12_token 20 = .ok (.aload_n 0, 1) := by decide +kernel
theorem dX12_token_21 : decode cX12_token 21 = .ok (.getfield 27, 3) := by decide +kernel
theorem dX12_token_24 : decode cX12_token 24 = .ok (.aload_n 0, 1) := by decide +kernel
theorem dX12_token_25 : decode cX12_token 25 = .ok (.getfield 238, 3) := by decide +kernel
theorem dX12_token_28 : decode cX12_token 28 = .ok (.iload_n 3, 1) := by decide +kernel
theorem dX12_token_29 : decode cX12_token 29 = .ok (.iastore, 1) := by decide +kernel
theorem dX12_token_30 : decode cX12_token 30 = .ok (.aload_n 0, 1) := by decide +kernel
theorem dX12_token_31 : decode cX12_token 31 = .ok (.getfield 30, 3) := by decide +kernel
theorem dX12_token_34 : decode cX12_token 34 = .ok (.aload_n 0, 1) := by decide +kernel
theorem dX12_token_35 : decode cX12_token 35 = .ok (.getfield 238, 3) := by decide +kernel
theorem dX12_token_38 : decode cX12_token 38 = .ok (.lload 4, 2) := by decide +kernel
theorem dX12_token_40 : decode cX12_token 40 = .ok (.lastore, 1) := by decide +kernel
theorem dX12_token_41 : decode cX12_token 41 = .ok (.aload_n 0, 1) := by decide +kernel
theorem dX12_token_42 : decode cX12_token 42 = .ok (.dup, 1) := by decide +kernel
theorem dX12_token_43 : decode cX12_token 43 = .ok (.getfield 238, 3) := by decide +kernel
theorem dX12_token_46 : decode cX12_token 46 = .ok (.iconst 1, 1) := by decide +kernel
theorem dX12_token_47 : decode cX12_token 47 = .ok (.iadd, 1) := by decide +kernel
theorem dX12_token_48 : decode cX12_token 48 = .ok (.putfield 238, 3) := by decide +kernel
theorem dX12_token_51 : decode cX12_token 51 = .ok (.return_, 1) := by decide +kernel
abbrev rm_X12_token : Room := { frames := 0, cells := 0, slots := 0, locals := 0 }
set_option maxRecDepth 100000 in
set_option maxHeartbeats 4000000 in
theorem ct_X12_token {w : Wd} {l : Launch} {a1 : Int} {a2 : Int} {a3 : Int} {a4 : Int} {σ : St} {σ' : St} (ia1 : InI a1) (ia2 : InI a2) (ia3 : InI a3) (ia4 : InL a4) (h : m_X12_token a1 a2 a3 a4 σ = some σ') : Ct w l yX12_token (Cond.code yX12_token cX12_token 6 none :: TB) rm_X12_token [rv w 170, iv a1, iv a2, iv a3, jv a4] σ none True σ' := by
  refine Ct.of2 [some (rv w 170), some (iv a1), some (iv a2), some (iv a3), some (jv a4), none] 0 rfl pn_RX12 (Nat.le_of_ble_eq_true rfl) ?_
  intro p e s m args below meth c C hr hlk
  unfold m_X12_token at h
  refine g_aload_n C dX12_token_0 rfl ?_
  refine g_getR (j := 5) C dX12_token_1 rfl (Nat.le_of_ble_eq_true rfl) (Nat.le_of_ble_eq_true rfl) fl_12_20 rfl rfl (r := 173) rfl ?_
  refine g_aload_n C dX12_token_4 rfl ?_
  refine g_getI (j := 10) C dX12_token_5 rfl (Nat.le_of_ble_eq_true rfl) (Nat.le_of_ble_eq_true rfl) fl_12_238 rfl rfl (fun i1 => ?_)
  refine g_iload_n C dX12_token_8 rfl ?_
  obtain ⟨σ2, qσ2, h⟩ := bnd h
  refine g_iast C dX12_token_9 rfl rfl qσ2 i1 ia1 ?_
  refine g_aload_n C dX12_token_10 rfl ?_
  refine g_getR (j := 6) C dX12_token_11 rfl (Nat.le_of_ble_eq_true rfl) (Nat.le_of_ble_eq_true rfl) fl_12_24 rfl rfl (r := 174) rfl ?_
  refine g_aload_n C dX12_token_14 rfl ?_
  refine g_getI (j := 10) C dX12_token_15 rfl (Nat.le_of_ble_eq_true rfl) (Nat.le_of_ble_eq_true rfl) fl_12_238 rfl rfl (fun i3 => ?_)
  refine g_iload_n C dX12_token_18 rfl ?_
  obtain ⟨σ4, qσ4, h⟩ := bnd h
  refine g_iast C dX12_token_19 rfl rfl qσ4 i3 ia2 ?_
  refine g_aload_n C dX12_token_20 rfl ?_
  refine g_getR (j := 7) C dX12_token_21 rfl (Nat.le_of_ble_eq_true rfl) (Nat.le_of_ble_eq_true rfl) fl_12_27 rfl rfl (r := 175) rfl ?_
  refine g_aload_n C dX12_token_24 rfl ?_
  refine g_getI (j := 10) C dX12_token_25 rfl (Nat.le_of_ble_eq_true rfl) (Nat.le_of_ble_eq_true rfl) fl_12_238 rfl rfl (fun i5 => ?_)
  refine g_iload_n C dX12_token_28 rfl ?_
  obtain ⟨σ6, qσ6, h⟩ := bnd h
  refine g_iast C dX12_token_29 rfl rfl qσ6 i5 ia3 ?_
  refine g_aload_n C dX12_token_30 rfl ?_
  refine g_getR (j := 8) C dX12_token_31 rfl (Nat.le_of_ble_eq_true rfl) (Nat.le_of_ble_eq_true rfl) fl_12_30 rfl rfl (r := 176) rfl ?_
  refine g_aload_n C dX12_token_34 rfl ?_
  refine g_getI (j := 10) C dX12_token_35 rfl (Nat.le_of_ble_eq_true rfl) (Nat.le_of_ble_eq_true rfl) fl_12_238 rfl rfl (fun i7 => ?_)
  refine g_lload C dX12_token_38 rfl ?_
  obtain ⟨σ8, qσ8, h⟩ := bnd h
  refine g_last C dX12_token_40 rfl rfl qσ8 i7 ia4 ?_
  refine g_aload_n C dX12_token_41 rfl ?_
  refine g_dup C dX12_token_42 rfl ?_
  refine g_getI (j := 10) C dX12_token_43 rfl (Nat.le_of_ble_eq_true rfl) (Nat.le_of_ble_eq_true rfl) fl_12_238 rfl rfl (fun i9 => ?_)
  refine g_iconst C dX12_token_46 ?_
  refine g_iadd C dX12_token_47 ?_
  obtain ⟨σ10, qσ10, h⟩ := bnd h
  refine g_putI (j := 10) C dX12_token_48 rfl (Nat.le_of_ble_eq_true rfl) (Nat.le_of_ble_eq_true rfl) fl_12_238 rfl rfl rfl rfl qσ10 (iwr _) ?_
  exact g_vretP C dX12_token_51 hr hlk h
theorem dX12_cut_0 : decode cX12_cut 0 = .ok (.aload_n 0, 1) := by decide +kernel
theorem dX12_cut_1 : decode cX12_cut 1 = .ok (.iconst 0, 1) := by decide +kernel
theorem dX12_cut_2 : decode cX12_cut 2 = .ok (.putfield 238, 3) := by decide +kernel
theorem dX12_cut_5 : decode cX12_cut 5 = .ok (.iconst 0, 1) := by decide +kernel
theorem dX12_cut_6 : decode cX12_cut 6 = .ok (.istore_n 1, 1) := by decide +kernel
theorem dX12_cut_7 : decode cX12_cut 7 = .ok (.aload_n 0, 1) := by decide +kernel
theorem dX12_cut_8 : decode cX12_cut 8 = .ok (.getfield 238, 3) := by decide +kernel
theorem dX12_cut_11 : decode cX12_cut 11 = .ok (.sipush 500, 3) := by decide +kernel
theorem dX12_cut_14 : decode cX12_cut 14 = .ok (.if_icmp .gt 285, 3) := by decide +kernel
theorem dX12_cut_17 : decode cX12_cut 17 = .ok (.aload_n 0, 1) := by decide +kernel
theorem dX12_cut_18 : decode cX12_cut 18 = .ok (.iload_n 1, 1) := by decide +kernel
theorem dX12_cut_19 : decode cX12_cut 19 = .ok (.invokevirtual 241, 3) := by decide +kernel
theorem dX12_cut_22 : decode cX12_cut 22 = .ok (.istore_n 2, 1) := by decide +kernel
theorem dX12_cut_23 : decode cX12_cut 23 = .ok (.iload_n 1, 1) := by decide +kernel
theorem dX12_cut_24 : decode cX12_cut 24 = .ok (.aload_n 0, 1) := by decide +kernel
theorem dX12_cut_25 : decode cX12_cut 25 = .ok (.getfield 229, 3) := by decide +kernel
theorem dX12_cut_28 : decode cX12_cut 28 = .ok (.if_icmp .lt 15, 3) := by decide +kernel
theorem dX12_cut_31 : decode cX12_cut 31 = .ok (.aload_n 0, 1) := by decide +kernel
theorem dX12_cut_32 : decode cX12_cut 32 = .ok (.iconst 0, 1) := by decide +kernel
theorem dX12_cut_33 : decode cX12_cut 33 = .ok (.aload_n 0, 1) := by decide +kernel
theorem dX12_cut_34 : decode cX12_cut 34 = .ok (.getfield 229, 3) := by decide +kernel
theorem dX12_cut_37 : decode cX12_cut 37 = .ok (.iconst 0, 1) := by decide +kernel
theorem dX12_cut_38 : decode cX12_cut 38 = .ok (.lconst 0, 1) := by decide +kernel
theorem dX12_cut_39 : decode cX12_cut 39 = .ok (.invokevirtual 245, 3) := by decide +kernel
theorem dX12_cut_42 : decode cX12_cut 42 = .ok (.return_, 1) := by decide +kernel
theorem dX12_cut_43 : decode cX12_cut 43 = .ok (.iload_n 2, 1) := by decide +kernel
theorem dX12_cut_44 : decode cX12_cut 44 = .ok (.bipush 9, 2) := by decide +kernel
theorem dX12_cut_46 : decode cX12_cut 46 = .ok (.if_icmp .eq 21, 3) := by decide +kernel
theorem dX12_cut_49 : decode cX12_cut 49 = .ok (.iload_n 2, 1) := by decide +kernel
theorem dX12_cut_50 : decode cX12_cut 50 = .ok (.bipush 10, 2) := by decide +kernel
theorem dX12_cut_52 : decode cX12_cut 52 = .ok (.if_icmp .eq 15, 3) := by decide +kernel
theorem dX12_cut_55 : decode cX12_cut 55 = .ok (.iload_n 2, 1) := by decide +kernel
theorem dX12_cut_56 : decode cX12_cut 56 = .ok (.bipush 13, 2) := by decide +kernel
theorem dX12_cut_58 : decode cX12_cut 58 = .ok (.if_icmp .eq 9, 3) := by decide +kernel
theorem dX12_cut_61 : decode cX12_cut 61 = .ok (.iload_n 2, 1) := by decide +kernel
theorem dX12_cut_62 : decode cX12_cut 62 = .ok (.bipush 32, 2) := by decide +kernel
theorem dX12_cut_64 : decode cX12_cut 64 = .ok (.if_icmp .ne 9, 3) := by decide +kernel
theorem dX12_cut_67 : decode cX12_cut 67 = .ok (.iinc 1 1, 3) := by decide +kernel
theorem dX12_cut_70 : decode cX12_cut 70 = .ok (.goto 226, 3) := by decide +kernel
theorem dX12_cut_73 : decode cX12_cut 73 = .ok (.iload_n 2, 1) := by decide +kernel
theorem dX12_cut_74 : decode cX12_cut 74 = .ok (.invokestatic 249, 3) := by decide +kernel
theorem dX12_cut_77 : decode cX12_cut 77 = .ok (.ifCond .eq 119, 3) := by decide +kernel
theorem dX12_cut_80 : decode cX12_cut 80 = .ok (.iconst 0, 1) := by decide +kernel
theorem dX12_cut_81 : decode cX12_cut 81 = .ok (.istore_n 3, 1) := by decide +kernel
theorem dX12_cut_82 : decode cX12_cut 82 = .ok (.lconst 0, 1) := by decide +kernel
theorem dX12_cut_83 : decode cX12_cut 83 = .ok (.lstore 4, 2) := by decide +kernel
theorem dX12_cut_85 : decode cX12_cut 85 = .ok (.aload_n 0, 1) := by decide +kernel
theorem dX12_cut_86 : decode cX12_cut 86 = .ok (.iload_n 1, 1) := by decide +kernel
theorem dX12_cut_87 : decode cX12_cut 87 = .ok (.iload_n 3, 1) := by decide +kernel
theorem dX12_cut_88 : decode cX12_cut 88 = .ok (.iadd, 1) := by decide +kernel
theorem dX12_cut_89 : decode cX12_cut 89 = .ok (.invokevirtual 241, 3) := by decide +kernel
theorem dX12_cut_92 : decode cX12_cut 92 = .ok (.invokestatic 249, 3) := by decide +kernel
theorem dX12_cut_95 : decode cX12_cut 95 = .ok (.ifCond .eq 29, 3) := by decide +kernel
theorem dX12_cut_98 : decode cX12_cut 98 = .ok (.iload_n 3, 1) := by decide +kernel
theorem dX12_cut_99 : decode cX12_cut 99 = .ok (.bipush 8, 2) := by decide +kernel
theorem dX12_cut_101 : decode cX12_cut 101 = .ok (.if_icmp .ge 17, 3) := by decide +kernel
theorem dX12_cut_104 : decode cX12_cut 104 = .ok (.lload 4, 2) := by decide +kernel
theorem dX12_cut_106 : decode cX12_cut 106 = .ok (.aload_n 0, 1) := by decide +kernel
theorem dX12_cut_107 : decode cX12_cut 107 = .ok (.iload_n 1, 1) := by decide +kernel
theorem dX12_cut_108 : decode cX12_cut 108 = .ok (.iload_n 3, 1) := by decide +kernel
theorem dX12_cut_109 : decode cX12_cut 109 = .ok (.iadd, 1) := by decide +kernel
theorem dX12_cut_110 : decode cX12_cut 110 = .ok (.invokevirtual 241, 3) := by decide +kernel
theorem dX12_cut_113 : decode cX12_cut 113 = .ok (.invokestatic 234, 3) := by decide +kernel
theorem dX12_cut_116 : decode cX12_cut 116 = .ok (.lstore 4, 2) := by decide +kernel
theorem dX12_cut_118 : decode cX12_cut 118 = .ok (.iinc 3 1, 3) := by decide +kernel
theorem dX12_cut_121 : decode cX12_cut 121 = .ok (.goto (-36), 3) := by decide +kernel
theorem dX12_cut_124 : decode cX12_cut 124 = .ok (.iload_n 3, 1) := by decide +kernel
theorem dX12_cut_125 : decode cX12_cut 125 = .ok (.bipush 8, 2) := by decide +kernel
theorem dX12_cut_127 : decode cX12_cut 127 = .ok (.if_icmp .le 7, 3) := by decide +kernel
theorem dX12_cut_130 : decode cX12_cut 130 = .ok (.iconst 3, 1) := by decide +kernel
theorem dX12_cut_131 : decode cX12_cut 131 = .ok (.goto 4, 3) := by decide +kernel
theorem dX12_cut_134 : decode cX12_cut 134 = .ok (.iconst 1, 1) := by decide +kernel
theorem dX12_cut_135 : decode cX12_cut 135 = .ok (.istore 6, 2) := by decide +kernel
theorem dX12_cut_137 : decode cX12_cut 137 = .ok (.iload_n 3, 1) := by decide +kernel
theorem dX12_cut_138 : decode cX12_cut 138 = .ok (.bipush 7, 2) := by decide +kernel
theorem dX12_cut_140 : decode cX12_cut 140 = .ok (.if_icmp .gt 39, 3) := by decide +kernel
theorem dX12_cut_143 : decode cX12_cut 143 = .ok (.iconst 0, 1) := by decide +kernel
theorem dX12_cut_144 : decode cX12_cut 144 = .ok (.istore 7, 2) := by decide +kernel
theorem dX12_cut_146 : decode cX12_cut 146 = .ok (.iload 7, 2) := by decide +kernel
theorem dX12_cut_148 : decode cX12_cut 148 = .ok (.bipush 26, 2) := by decide +kernel
theorem dX12_cut_150 : decode cX12_cut 150 = .ok (.if_icmp .ge 29, 3) := by decide +kernel
theorem dX12_cut_153 : decode cX12_cut 153 = .ok (.aload_n 0, 1) := by decide +kernel
theorem dX12_cut_154 : decode cX12_cut 154 = .ok (.getfield 34, 3) := by decide +kernel
theorem dX12_cut_157 : decode cX12_cut 157 = .ok (.iload 7, 2) := by decide +kernel
theorem dX12_cut_159 : decode cX12_cut 159 = .ok (.laload, 1) := by decide +kernel
theorem dX12_cut_160 : decode cX12_cut 160 = .ok (.lload 4, 2) := by decide +kernel
theorem dX12_cut_162 : decode cX12_cut 162 = .ok (.lcmp, 1) := by decide +kernel
theorem dX12_cut_163 : decode cX12_cut 163 = .ok (.ifCond .ne 10, 3) := by decide +kernel
theorem dX12_cut_166 : decode cX12_cut 166 = .ok (.bipush 20, 2) := by decide +kernel
theorem dX12_cut_168 : decode cX12_cut 168 = .ok (.iload 7, 2) := by decide +kernel
theorem dX12_cut_170 : decode cX12_cut 170 = .ok (.iadd, 1) := by decide +kernel
theorem dX12_cut_171 : decode cX12_cut 171 = .ok (.istore 6, 2) := by decide +kernel
theorem dX12_cut_173 : decode cX12_cut 173 = .ok (.iinc 7 1, 3) := by decide +kernel
theorem dX12_cut_176 : decode cX12_cut 176 = .ok (.goto (-30), 3) := by decide +kernel
theorem dX12_cut_179 : decode cX12_cut 179 = .ok (.aload_n 0, 1) := by decide +kernel
theorem dX12_cut_180 : decode cX12_cut 180 = .ok (.iload 6, 2) := by decide +kernel
theorem dX12_cut_182 : decode cX12_cut 182 = .ok (.iload_n 1, 1) := by decide +kernel
theorem dX12_cut_183 : decode cX12_cut 183 = .ok (.iconst 0, 1) := by decide +kernel
theorem dX12_cut_184 : decode cX12_cut 184 = .ok (.lload 4, 2) := by decide +kernel
theorem dX12_cut_186 : decode cX12_cut 186 = .ok (.invokevirtual 245, 3) := by decide +kernel
theorem dX12_cut_189 : decode cX12_cut 189 = .ok (.iload_n 1, 1) := by decide +kernel
theorem dX12_cut_190 : decode cX12_cut 190 = .ok (.iload_n 3, 1) := by decide +kernel
theorem dX12_cut_191 : decode cX12_cut 191 = .ok (.iadd, 1) := by decide +kernel
theorem dX12_cut_192 : decode cX12_cut 192 = .ok (.istore_n 1, 1) := by decide +kernel
theorem dX12_cut_193 : decode cX12_cut 193 = .ok (.goto 103, 3) := by decide +kernel
theorem dX12_cut_196 : decode cX12_cut 196 = .ok (.iload_n 2, 1) := by decide +kernel
theorem dX12_cut_197 : decode cX12_cut 197 = .ok (.invokestatic 253, 3) := by decide +kernel
theorem dX12_cut_200 : decode cX12_cut 200 = .ok (.ifCond .eq 75, 3) := by decide +kernel
theorem dX12_cut_203 : decode cX12_cut 203 = .ok (.iconst 0, 1) := by decide +kernel
theorem dX12_cut_204 : decode cX12_cut 204 = .ok (.istore_n 3, 1) := by decide +kernel
theorem dX12_cut_205 : decode cX12_cut 205 = .ok (.iconst 0, 1) := by decide +kernel
theorem dX12_cut_206 : decode cX12_cut 206 = .ok (.istore 4, 2) := by decide +kernel
theorem dX12_cut_208 : decode cX12_cut 208 = .ok (.aload_n 0, 1) := by decide +kernel
theorem dX12_cut_209 : decode cX12_cut 209 = .ok (.iload_n 1, 1) := by decide +kernel
theorem dX12_cut_210 : decode cX12_cut 210 = .ok (.iload_n 3, 1) := by decide +kernel
theorem dX12_cut_211 : decode cX12_cut 211 = .ok (.iadd, 1) := by decide +kernel
theorem dX12_cut_212 : decode cX12_cut 212 = .ok (.invokevirtual 241, 3) := by decide +kernel
theorem dX12_cut_215 : decode cX12_cut 215 = .ok (.invokestatic 253, 3) := by decide +kernel
theorem dX12_cut_218 : decode cX12_cut 218 = .ok (.ifCond .eq 32, 3) := by decide +kernel
theorem dX12_cut_221 : decode cX12_cut 221 = .ok (.iload_n 3, 1) := by decide +kernel
theorem dX12_cut_222 : decode cX12_cut 222 = .ok (.iconst 2, 1) := by decide +kernel
theorem dX12_cut_223 : decode cX12_cut 223 = .ok (.if_icmp .ge 21, 3) := by decide +kernel
theorem dX12_cut_226 : decode cX12_cut 226 = .ok (.bipush 10, 2) := by decide +kernel
theorem dX12_cut_228 : decode cX12_cut 228 = .ok (.iload 4, 2) := by decide +kernel
theorem dX12_cut_230 : decode cX12_cut 230 = .ok (.imul, 1) := by decide +kernel
theorem dX12_cut_231 : decode cX12_cut 231 = .ok (.aload_n 0, 1) := by decide +kernel
theorem dX12_cut_232 : decode cX12_cut 232 = .ok (.iload_n 1, 1) := by decide +kernel
theorem dX12_cut_233 : decode cX12_cut 233 = .ok (.iload_n 3, 1) := by decide +kernel
theorem dX12_cut_234 : decode cX12_cut 234 = .ok (.iadd, 1) := by decide +kernel
theorem dX12_cut_235 : decode cX12_cut 235 = .ok (.invokevirtual 241, 3) := by decide +kernel
theorem dX12_cut_238 : decode cX12_cut 238 = .ok (.iadd, 1) := by decide +kernel
theorem dX12_cut_239 : decode cX12_cut 239 = .ok (.bipush 48, 2) := by decide +kernel
theorem dX12_cut_241 : decode cX12_cut 241 = .ok (.isub, 1) := by decide +kernel
theorem dX12_cut_242 : decode cX12_cut 242 = .ok (.istore 4, 2) := by decide +kernel
theorem dX12_cut_244 : decode cX12_cut 244 = .ok (.iinc 3 1, 3) := by decide +kernel
theorem dX12_cut_247 : decode cX12_cut 247 = .ok (.goto (-39), 3) := by decide +kernel
theorem dX12_cut_250 : decode cX12_cut 250 = .ok (.aload_n 0, 1) := by decide +kernel
theorem dX12_cut_251 : decode cX12_cut 251 = .ok (.iload_n 3, 1) := by decide +kernel
theorem dX12_cut_252 : decode cX12_cut 252 = .ok (.iconst 2, 1) := by decide +kernel
theorem dX12_cut_253 : decode cX12_cut 253 = .ok (.if_icmp .le 7, 3) := by decide +kernel
theorem dX12_cut_256 : decode cX12_cut 256 = .ok (.iconst 3, 1) := by decide +kernel
theorem dX12_cut_257 : decode cX12_cut 257 = .ok (.goto 4, 3) := by decide +kernel
theorem dX12_cut_260 : decode cX12_cut 260 = .ok (.iconst 2, 1) := by decide +kernel
theorem dX12_cut_261 : decode cX12_cut 261 = .ok (.iload_n 1, 1) := by decide +kernel
theorem dX12_cut_262 : decode cX12_cut 262 = .ok (.iload 4, 2) := by decide +kernel
theorem dX12_cut_264 : decode cX12_cut 264 = .ok (.lconst 0, 1) := by decide +kernel
theorem dX12_cut_265 : decode cX12_cut 265 = .ok (.invokevirtual 245, 3) := by decide +kernel
theorem dX12_cut_268 : decode cX12_cut 268 = .ok (.iload_n 1, 1) := by decide +kernel
theorem dX12_cut_269 : decode cX12_cut 269 = .ok (.iload_n 3, 1) := by decide +kernel
theorem dX12_cut_270 : decode cX12_cut 270 = .ok (.iadd, 1) := by decide +kernel
theorem dX12_cut_271 : decode cX12_cut 271 = .ok (.istore_n 1, 1) := by decide +kernel
theorem dX12_cut_272 : decode cX12_cut 272 = .ok (.goto 24, 3) := by decide +kernel
theorem dX12_cut_275 : decode cX12_cut 275 = .ok (.aload_n 0, 1) := by decide +kernel
theorem dX12_cut_276 : decode cX12_cut 276 = .ok (.iload_n 2, 1) := by decide +kernel
theorem dX12_cut_277 : decode cX12_cut 277 = .ok (.bipush 59, 2) := by decide +kernel
theorem dX12_cut_279 : decode cX12_cut 279 = .ok (.if_icmp .ne 7, 3) := by decide +kernel
theorem dX12_cut_282 : decode cX12_cut 282 = .ok (.iconst 4, 1) := by decide +kernel
theorem dX12_cut_283 : decode cX12_cut 283 = .ok (.goto 4, 3) := by decide +kernel
theorem dX12_cut_286 : decode cX12_cut 286 = .ok (.iconst 3, 1) := by decide +kernel
theorem dX12_cut_287 : decode cX12_cut 287 = .ok (.iload_n 1, 1) := by decide +kernel
theorem dX12_cut_288 : decode cX12_cut 288 = .ok (.iconst 0, 1) := by decide +kernel
theorem dX12_cut_289 : decode cX12_cut 289 = .ok (.lconst 0, 1) := by decide +kernel
theorem dX12_cut_290 : decode cX12_cut 290 = .ok (.invokevirtual 245, 3) := by decide +kernel
theorem dX12_cut_293 : decode cX12_cut 293 = .ok (.iinc 1 1, 3) := by decide +kernel
theorem dX12_cut_296 : decode cX12_cut 296 = .ok (.goto (-289), 3) := by decide +kernel
theorem dX12_cut_299 : decode cX12_cut 299 = .ok (.return_, 1) := by decide +kernel
abbrev rm_X12_cut : Room := { frames := 1, cells := 0, slots := 0, locals := 25 }
set_option maxRecDepth 100000 in
set_option maxHeartbeats 4000000 in
theorem ct_X12_cut {w : Wd} {l : Launch} {σ : St} {σ' : St} (h : m_X12_cut σ = some σ') : Ct w l yX12_cut (Cond.code yX12_cut cX12_cut 8 none :: TB) rm_X12_cut [rv w 170] σ none True σ' := by
  refine Ct.of2 [some (rv w 170), none, none, none, none, none, none, none] 7 rfl pn_RX12 (Nat.le_of_ble_eq_true rfl) ?_
  intro p e s m args below meth c C hr hlk
  unfold m_X12_cut at h
  refine g_aload_n C dX12_cut_0 rfl ?_
  refine g_iconst C dX12_cut_1 ?_
  obtain ⟨σ1, qσ1, h⟩ := bnd h
  refine g_putI (j := 10) C dX12_cut_2 rfl (Nat.le_of_ble_eq_true rfl) (Nat.le_of_ble_eq_true rfl) fl_12_238 rfl rfl rfl rfl qσ1 (by decide) ?_
  refine g_iconst C dX12_cut_5 ?_
  refine g_istore_n (L1 := [some (rv w 170), some (iv 0), none, none, none, none, none, none]) C dX12_cut_6 rfl (Nat.le_of_ble_eq_true rfl) rfl ?_
  obtain ⟨b2, hb2, hF2⟩ := bnd h
  have hX2 : ∀ (σ67 : St) , Sum.inl σ67 = b2 → GM w p l e rm_X12_cut s m args below meth c none True σ' 8 299 [none, none, none, none, none, none, none, none] [] σ67 := by
    intro σ67 q
    subst q
    have h := hF2
    exact g_vretP C dX12_cut_299 hr hlk h
  have hL2 : ∀ (n : Nat) (x3 : Int) (σ4 : St) , InI x3 → lpN (fun a => m_X12_cut_L7 a.1 a.2) n (x3, σ4) = some b2 → GM w p l e rm_X12_cut s m args below meth c none True σ' 8 7 [some (rv w 170), some (iv x3), none, none, none, none, none, none] [] σ4 := by
    intro n
    induction n with
    | zero => intro x3 σ4 ix3 q; cases q
    | succ n ih2 =>
      intro x3 σ4 ix3 q
      obtain ⟨o2, h, hk2⟩ := lp_step q
      replace h : m_X12_cut_L7 x3 σ4 = some o2 := h
      unfold m_X12_cut_L7 at h
      refine g_aload_n C dX12_cut_7 rfl ?_
      refine g_getI (j := 10) C dX12_cut_8 rfl (Nat.le_of_ble_eq_true rfl) (Nat.le_of_ble_eq_true rfl) fl_12_238 rfl rfl (fun i5 => ?_)
      refine g_sipush C dX12_cut_11 rfl ?_
      refine g_icmp_gt C dX12_cut_14 i5 (by decide) rfl (tgt := 299) (fun c6 => ?_) (fun c6 => ?_)
      · have h := ifT c6 h
        refine g_mask [false, false, true, true, true, true, true, true] ?_
        obtain rfl := Option.some.inj h
        exact hX2 σ4 (lpR hk2).symm
      · have h := ifF c6 h
        refine g_aload_n C dX12_cut_17 rfl ?_
        refine g_iload_n C dX12_cut_18 rfl ?_
        obtain ⟨x7, qx7, h⟩ := bnd h
        refine g_callV1 (As := [iv x3]) C dX12_cut_19 mi_X12_at ml_12_241 (ct_X12_at ix3 qx7) rfl rfl ⟨rfl, rfl⟩ ⟨Nat.le_of_ble_eq_true rfl, Nat.le_of_ble_eq_true rfl⟩ ⟨Nat.zero_le _, Nat.zero_le _⟩ rfl (Nat.le_of_ble_eq_true rfl) (fun ix7 => ?_)
        refine g_istore_n (L1 := [some (rv w 170), some (iv x3), some (iv x7), none, none, none, none, none]) C dX12_cut_22 rfl (Nat.le_of_ble_eq_true rfl) rfl ?_
        refine g_iload_n C dX12_cut_23 rfl ?_
        refine g_aload_n C dX12_cut_24 rfl ?_
        refine g_getI (j := 4) C dX12_cut_25 rfl (Nat.le_of_ble_eq_true rfl) (Nat.le_of_ble_eq_true rfl) fl_12_229 rfl rfl (fun i8 => ?_)
        refine g_icmp_lt C dX12_cut_28 ix3 i8 rfl (tgt := 43) (fun c9 => ?_) (fun c9 => ?_)
        · have h := ifT c9 h
          refine g_iload_n C dX12_cut_43 rfl ?_
          refine g_bipush C dX12_cut_44 rfl ?_
          refine g_icmp_eq C dX12_cut_46 ix7 (by decide) rfl (tgt := 67) (fun c10 => ?_) (fun c10 => ?_)
          · have h := ifT c10 h
            refine g_iinc (L1 := [some (rv w 170), some (iv (wr (x3 + 1))), some (iv x7), none, none, none, none, none]) C dX12_cut_67 rfl rfl (Nat.le_of_ble_eq_true rfl) rfl ?_
            refine g_goto C dX12_cut_70 rfl (tgt := 296) ?_
            refine g_goto C dX12_cut_296 rfl (tgt := 7) ?_
            refine g_mask [true, true, false, true, true, true, true, true] ?_
            obtain rfl := Option.some.inj h
            exact ih2 _ _ (iwr _) (lpL hk2)
          · have h := ifF c10 h
            refine g_iload_n C dX12_cut_49 rfl ?_
            refine g_bipush C dX12_cut_50 rfl ?_
            refine g_icmp_eq C dX12_cut_52 ix7 (by decide) rfl (tgt := 67) (fun c11 => ?_) (fun c11 => ?_)
            · have h := ifT c11 h
              refine g_iinc (L1 := [some (rv w 170), some (iv (wr (x3 + 1))), some (iv x7), none, none, none, none, none]) C dX12_cut_67 rfl rfl (Nat.le_of_ble_eq_true rfl) rfl ?_
              refine g_goto C dX12_cut_70 rfl (tgt := 296) ?_
              refine g_goto C dX12_cut_296 rfl (tgt := 7) ?_
              refine g_mask [true, true, false, true, true, true, true, true] ?_
              obtain rfl := Option.some.inj h
              exact ih2 _ _ (iwr _) (lpL hk2)
            · have h := ifF c11 h
              refine g_iload_n C dX12_cut_55 rfl ?_
              refine g_bipush C dX12_cut_56 rfl ?_
              refine g_icmp_eq C dX12_cut_58 ix7 (by decide) rfl (tgt := 67) (fun c12 => ?_) (fun c12 => ?_)
              · have h := ifT c12 h
                refine g_iinc (L1 := [some (rv w 170), some (iv (wr (x3 + 1))), some (iv x7), none, none, none, none, none]) C dX12_cut_67 rfl rfl (Nat.le_of_ble_eq_true rfl) rfl ?_
                refine g_goto C dX12_cut_70 rfl (tgt := 296) ?_
                refine g_goto C dX12_cut_296 rfl (tgt := 7) ?_
                refine g_mask [true, true, false, true, true, true, true, true] ?_
                obtain rfl := Option.some.inj h
                exact ih2 _ _ (iwr _) (lpL hk2)
              · have h := ifF c12 h
                refine g_iload_n C dX12_cut_61 rfl ?_
                refine g_bipush C dX12_cut_62 rfl ?_
                refine g_icmp_ne C dX12_cut_64 ix7 (by decide) rfl (tgt := 73) (fun c13 => ?_) (fun c13 => ?_)
                · have h := ifF c13 h
                  refine g_iload_n C dX12_cut_73 rfl ?_
                  obtain ⟨x14, qx14, h⟩ := bnd h
                  refine g_callS1 (As := [iv x7]) C dX12_cut_74 mi_X12_isLetter ml_12_249 (ct_X12_isLetter ix7 qx14) rfl ⟨rfl, rfl⟩ ⟨Nat.le_of_ble_eq_true rfl, Nat.le_of_ble_eq_true rfl⟩ ⟨Nat.zero_le _, Nat.zero_le _⟩ rfl (Nat.le_of_ble_eq_true rfl) (fun ix14 => ?_)
                  refine g_if_eq C dX12_cut_77 (zI ix14) rfl (tgt := 196) (fun c15 => ?_) (fun c15 => ?_)
                  · have h := ifT c15 h
                    refine g_iload_n C dX12_cut_196 rfl ?_
                    obtain ⟨x16, qx16, h⟩ := bnd h
                    refine g_callS1 (As := [iv x7]) C dX12_cut_197 mi_X12_isDigit ml_12_253 (ct_X12_isDigit ix7 qx16) rfl ⟨rfl, rfl⟩ ⟨Nat.le_of_ble_eq_true rfl, Nat.le_of_ble_eq_true rfl⟩ ⟨Nat.zero_le _, Nat.zero_le _⟩ rfl (Nat.le_of_ble_eq_true rfl) (fun ix16 => ?_)
                    refine g_if_eq C dX12_cut_200 (zI ix16) rfl (tgt := 275) (fun c17 => ?_) (fun c17 => ?_)
                    · have h := ifT c17 h
                      refine g_aload_n C dX12_cut_275 rfl ?_
                      refine g_iload_n C dX12_cut_276 rfl ?_
                      refine g_bipush C dX12_cut_277 rfl ?_
                      have hJ287_21 : ∀ (x19 : Int) , InI x19 → m_X12_cut_J287 x3 σ4 x19 = some o2 → GM w p l e rm_X12_cut s m args below meth c none True σ' 8 287 [some (rv w 170), some (iv x3), none, none, none, none, none, none] [iv x19, rv w 170] σ4 := by
                        intro x19 ix19 h
                        unfold m_X12_cut_J287 at h
                        refine g_iload_n C dX12_cut_287 rfl ?_
                        refine g_iconst C dX12_cut_288 ?_
                        refine g_lconst0 C dX12_cut_289 ?_
                        obtain ⟨σ20, qσ20, h⟩ := bnd h
                        refine g_callV0 (As := [iv x19, iv x3, iv 0, jv 0]) C dX12_cut_290 mi_X12_token ml_12_245 (ct_X12_token ix19 ix3 (by decide) (by decide) qσ20) rfl rfl ⟨rfl, rfl⟩ ⟨Nat.le_of_ble_eq_true rfl, Nat.le_of_ble_eq_true rfl⟩ ⟨Nat.zero_le _, Nat.zero_le _⟩ rfl (Nat.le_of_ble_eq_true rfl) (fun _ => ?_)
                        refine g_iinc (L1 := [some (rv w 170), some (iv (wr (x3 + 1))), none, none, none, none, none, none]) C dX12_cut_293 rfl rfl (Nat.le_of_ble_eq_true rfl) rfl ?_
                        refine g_goto C dX12_cut_296 rfl (tgt := 7) ?_
                        obtain rfl := Option.some.inj h
                        exact ih2 _ _ (iwr _) (lpL hk2)
                      refine g_icmp_ne C dX12_cut_279 ix7 (by decide) rfl (tgt := 286) (fun c18 => ?_) (fun c18 => ?_)
                      · have h := ifF c18 h
                        refine g_iconst C dX12_cut_286 ?_
                        refine g_mask [true, true, false, true, true, true, true, true] ?_
                        exact hJ287_21 3 (by decide) h
                      · have h := ifT c18 h
                        refine g_iconst C dX12_cut_282 ?_
                        refine g_goto C dX12_cut_283 rfl (tgt := 287) ?_
                        refine g_mask [true, true, false, true, true, true, true, true] ?_
                        exact hJ287_21 4 (by decide) h
                    · have h := ifF c17 h
                      refine g_iconst C dX12_cut_203 ?_
                      refine g_istore_n (L1 := [some (rv w 170), some (iv x3), some (iv x7), some (iv 0), none, none, none, none]) C dX12_cut_204 rfl (Nat.le_of_ble_eq_true rfl) rfl ?_
                      refine g_iconst C dX12_cut_205 ?_
                      refine g_istore (L1 := [some (rv w 170), some (iv x3), some (iv x7), some (iv 0), some (iv 0), none, none, none]) C dX12_cut_206 rfl (Nat.le_of_ble_eq_true rfl) rfl ?_
                      refine g_mask [true, true, false, true, true, true, true, true] ?_
                      obtain ⟨b22, hb22, hF22⟩ := bnd h
                      have hX22 : ∀ (x31 : Int) (x32 : Int) , InI x31 → InI x32 → (x31, x32) = b22 → GM w p l e rm_X12_cut s m args below meth c none True σ' 8 250 [some (rv w 170), some (iv x3), none, some (iv x31), some (iv x32), none, none, none] [] σ4 := by
                        intro x31 x32 ix31 ix32 q
                        subst q
                        have h := hF22
                        refine g_aload_n C dX12_cut_250 rfl ?_
                        refine g_iload_n C dX12_cut_251 rfl ?_
                        refine g_iconst C dX12_cut_252 ?_
                        have hJ261_37 : ∀ (x34 : Int) , InI x34 → m_X12_cut_J261 x3 x32 σ4 x31 x34 = some o2 → GM w p l e rm_X12_cut s m args below meth c none True σ' 8 261 [some (rv w 170), some (iv x3), none, some (iv x31), some (iv x32), none, none, none] [iv x34, rv w 170] σ4 := by
                          intro x34 ix34 h
                          unfold m_X12_cut_J261 at h
                          refine g_iload_n C dX12_cut_261 rfl ?_
                          refine g_iload C dX12_cut_262 rfl ?_
                          refine g_lconst0 C dX12_cut_264 ?_
                          obtain ⟨σ35, qσ35, h⟩ := bnd h
                          refine g_callV0 (As := [iv x34, iv x3, iv x32, jv 0]) C dX12_cut_265 mi_X12_token ml_12_245 (ct_X12_token ix34 ix3 ix32 (by decide) qσ35) rfl rfl ⟨rfl, rfl⟩ ⟨Nat.le_of_ble_eq_true rfl, Nat.le_of_ble_eq_true rfl⟩ ⟨Nat.zero_le _, Nat.zero_le _⟩ rfl (Nat.le_of_ble_eq_true rfl) (fun _ => ?_)
                          refine g_iload_n C dX12_cut_268 rfl ?_
                          refine g_iload_n C dX12_cut_269 rfl ?_
                          refine g_iadd C dX12_cut_270 ?_
                          obtain ⟨x36, qx36, h⟩ := bnd h
                          have qx36 := Option.some.inj qx36
                          have ix36 : InI x36 := by rw [← qx36]; exact (iwr _)
                          refine g_E qx36 ?_
                          refine g_istore_n (L1 := [some (rv w 170), some (iv x36), none, some (iv x31), some (iv x32), none, none, none]) C dX12_cut_271 rfl (Nat.le_of_ble_eq_true rfl) rfl ?_
                          refine g_goto C dX12_cut_272 rfl (tgt := 296) ?_
                          refine g_goto C dX12_cut_296 rfl (tgt := 7) ?_
                          refine g_mask [true, true, true, false, false, true, true, true] ?_
                          obtain rfl := Option.some.inj h
                          exact ih2 _ _ ix36 (lpL hk2)
                        refine g_icmp_le C dX12_cut_253 ix31 (by decide) rfl (tgt := 260) (fun c33 => ?_) (fun c33 => ?_)
                        · have h := ifT c33 h
                          refine g_iconst C dX12_cut_260 ?_
                          exact hJ261_37 2 (by decide) h
                        · have h := ifF c33 h
                          refine g_iconst C dX12_cut_256 ?_
                          refine g_goto C dX12_cut_257 rfl (tgt := 261) ?_
                          exact hJ261_37 3 (by decide) h
                      have hL22 : ∀ (n : Nat) (x23 : Int) (x24 : Int) , InI x23 → InI x24 → lpN (fun a => m_X12_cut_L208 x3 σ4 a.1 a.2) n (x23, x24) = some b22 → GM w p l e rm_X12_cut s m args below meth c none True σ' 8 208 [some (rv w 170), some (iv x3), none, some (iv x23), some (iv x24), none, none, none] [] σ4 := by
                        intro n
                        induction n with
                        | zero => intro x23 x24 ix23 ix24 q; cases q
                        | succ n ih22 =>
                          intro x23 x24 ix23 ix24 q
                          obtain ⟨o22, h, hk22⟩ := lp_step q
                          replace h : m_X12_cut_L208 x3 σ4 x23 x24 = some o22 := h
                          unfold m_X12_cut_L208 at h
                          refine g_aload_n C dX12_cut_208 rfl ?_
                          refine g_iload_n C dX12_cut_209 rfl ?_
                          refine g_iload_n C dX12_cut_210 rfl ?_
                          refine g_iadd C dX12_cut_211 ?_
                          obtain ⟨x25, qx25, h⟩ := bnd h
                          refine g_callV1 (As := [iv (wr (x3 + x23))]) C dX12_cut_212 mi_X12_at ml_12_241 (ct_X12_at (iwr _) qx25) rfl rfl ⟨rfl, rfl⟩ ⟨Nat.le_of_ble_eq_true rfl, Nat.le_of_ble_eq_true rfl⟩ ⟨Nat.zero_le _, Nat.zero_le _⟩ rfl (Nat.le_of_ble_eq_true rfl) (fun ix25 => ?_)
                          obtain ⟨x26, qx26, h⟩ := bnd h
                          refine g_callS1 (As := [iv x25]) C dX12_cut_215 mi_X12_isDigit ml_12_253 (ct_X12_isDigit ix25 qx26) rfl ⟨rfl, rfl⟩ ⟨Nat.le_of_ble_eq_true rfl, Nat.le_of_ble_eq_true rfl⟩ ⟨Nat.zero_le _, Nat.zero_le _⟩ rfl (Nat.le_of_ble_eq_true rfl) (fun ix26 => ?_)
                          refine g_if_eq C dX12_cut_218 (zI ix26) rfl (tgt := 250) (fun c27 => ?_) (fun c27 => ?_)
                          · have h := ifT c27 h
                            obtain rfl := Option.some.inj h
                            exact hX22 x23 x24 ix23 ix24 (lpR hk22).symm
                          · have h := ifF c27 h
                            refine g_iload_n C dX12_cut_221 rfl ?_
                            refine g_iconst C dX12_cut_222 ?_
                            refine g_icmp_ge C dX12_cut_223 ix23 (by decide) rfl (tgt := 244) (fun c28 => ?_) (fun c28 => ?_)
                            · have h := ifT c28 h
                              refine g_iinc (L1 := [some (rv w 170), some (iv x3), none, some (iv (wr (x23 + 1))), some (iv x24), none, none, none]) C dX12_cut_244 rfl rfl (Nat.le_of_ble_eq_true rfl) rfl ?_
                              refine g_goto C dX12_cut_247 rfl (tgt := 208) ?_
                              obtain rfl := Option.some.inj h
                              exact ih22 _ _ (iwr _) ix24 (lpL hk22)
                            · have h := ifF c28 h
                              refine g_bipush C dX12_cut_226 rfl ?_
                              refine g_iload C dX12_cut_228 rfl ?_
                              refine g_imul C dX12_cut_230 ?_
                              refine g_aload_n C dX12_cut_231 rfl ?_
                              refine g_iload_n C dX12_cut_232 rfl ?_
                              refine g_iload_n C dX12_cut_233 rfl ?_
                              refine g_iadd C dX12_cut_234 ?_
                              obtain ⟨x29, qx29, h⟩ := bnd h
                              refine g_callV1 (As := [iv (wr (x3 + x23))]) C dX12_cut_235 mi_X12_at ml_12_241 (ct_X12_at (iwr _) qx29) rfl rfl ⟨rfl, rfl⟩ ⟨Nat.le_of_ble_eq_true rfl, Nat.le_of_ble_eq_true rfl⟩ ⟨Nat.zero_le _, Nat.zero_le _⟩ rfl (Nat.le_of_ble_eq_true rfl) (fun ix29 => ?_)
                              refine g_iadd C dX12_cut_238 ?_
                              refine g_bipush C dX12_cut_239 rfl ?_
                              refine g_isub C dX12_cut_241 ?_
                              obtain ⟨x30, qx30, h⟩ := bnd h
                              have qx30 := Option.some.inj qx30
                              have ix30 : InI x30 := by rw [← qx30]; exact (iwr _)
                              refine g_E qx30 ?_
                              refine g_istore (L1 := [some (rv w 170), some (iv x3), none, some (iv x23), some (iv x30), none, none, none]) C dX12_cut_242 rfl (Nat.le_of_ble_eq_true rfl) rfl ?_
                              refine g_iinc (L1 := [some (rv w 170), some (iv x3), none, some (iv (wr (x23 + 1))), some (iv x30), none, none, none]) C dX12_cut_244 rfl rfl (Nat.le_of_ble_eq_true rfl) rfl ?_
                              refine g_goto C dX12_cut_247 rfl (tgt := 208) ?_
                              obtain rfl := Option.some.inj h
                              exact ih22 _ _ (iwr _) ix30 (lpL hk22)
                      exact hL22 FU _ _ (by decide) (by decide) hb22
                  · have h := ifF c15 h
                    refine g_iconst C dX12_cut_80 ?_
                    refine g_istore_n (L1 := [some (rv w 170), some (iv x3), some (iv x7), some (iv 0), none, none, none, none]) C dX12_cut_81 rfl (Nat.le_of_ble_eq_true rfl) rfl ?_
                    refine g_lconst0 C dX12_cut_82 ?_
                    refine g_lstore (L1 := [some (rv w 170), some (iv x3), some (iv x7), some (iv 0), some (jv 0), none, none, none]) C dX12_cut_83 rfl (Nat.le_of_ble_eq_true rfl) rfl ?_
                    refine g_mask [true, true, false, true, true, true, true, true] ?_
                    obtain ⟨b38, hb38, hF38⟩ := bnd h
                    have hX38 : ∀ (x47 : Int) (x48 : Int) , InI x47 → InL x48 → (x47, x48) = b38 → GM w p l e rm_X12_cut s m args below meth c none True σ' 8 124 [some (rv w 170), some (iv x3), none, some (iv x47), some (jv x48), none, none, none] [] σ4 := by
                      intro x47 x48 ix47 ix48 q
                      subst q
                      have h := hF38
                      refine g_iload_n C dX12_cut_124 rfl ?_
                      refine g_bipush C dX12_cut_125 rfl ?_
                      have hJ135_64 : ∀ (x50 : Int) , InI x50 → m_X12_cut_J135 x47 x3 x48 σ4 x50 = some o2 → GM w p l e rm_X12_cut s m args below meth c none True σ' 8 135 [some (rv w 170), some (iv x3), none, some (iv x47), some (jv x48), none, none, none] [iv x50] σ4 := by
                        intro x50 ix50 h
                        unfold m_X12_cut_J135 at h
                        refine g_istore (L1 := [some (rv w 170), some (iv x3), none, some (iv x47), some (jv x48), none, some (iv x50), none]) C dX12_cut_135 rfl (Nat.le_of_ble_eq_true rfl) rfl ?_
                        refine g_iload_n C dX12_cut_137 rfl ?_
                        refine g_bipush C dX12_cut_138 rfl ?_
                        have hJ179_63 : ∀ (x60 : Int) , InI x60 → m_X12_cut_J179 x3 x48 σ4 x47 x60 = some o2 → GM w p l e rm_X12_cut s m args below meth c none True σ' 8 179 [some (rv w 170), some (iv x3), none, some (iv x47), some (jv x48), none, some (iv x60), none] [] σ4 := by
                          intro x60 ix60 h
                          unfold m_X12_cut_J179 at h
                          refine g_aload_n C dX12_cut_179 rfl ?_
                          refine g_iload C dX12_cut_180 rfl ?_
                          refine g_iload_n C dX12_cut_182 rfl ?_
                          refine g_iconst C dX12_cut_183 ?_
                          refine g_lload C dX12_cut_184 rfl ?_
                          obtain ⟨σ61, qσ61, h⟩ := bnd h
                          refine g_callV0 (As := [iv x60, iv x3, iv 0, jv x48]) C dX12_cut_186 mi_X12_token ml_12_245 (ct_X12_token ix60 ix3 (by decide) ix48 qσ61) rfl rfl ⟨rfl, rfl⟩ ⟨Nat.le_of_ble_eq_true rfl, Nat.le_of_ble_eq_true rfl⟩ ⟨Nat.zero_le _, Nat.zero_le _⟩ rfl (Nat.le_of_ble_eq_true rfl) (fun _ => ?_)
                          refine g_iload_n C dX12_cut_189 rfl ?_
                          refine g_iload_n C dX12_cut_190 rfl ?_
                          refine g_iadd C dX12_cut_191 ?_
                          obtain ⟨x62, qx62, h⟩ := bnd h
                          have qx62 := Option.some.inj qx62
                          have ix62 : InI x62 := by rw [← qx62]; exact (iwr _)
                          refine g_E qx62 ?_
                          refine g_istore_n (L1 := [some (rv w 170), some (iv x62), none, some (iv x47), some (jv x48), none, some (iv x60), none]) C dX12_cut_192 rfl (Nat.le_of_ble_eq_true rfl) rfl ?_
                          refine g_goto C dX12_cut_193 rfl (tgt := 296) ?_
                          refine g_goto C dX12_cut_296 rfl (tgt := 7) ?_
                          refine g_mask [true, true, true, false, false, true, false, true] ?_
                          obtain rfl := Option.some.inj h
                          exact ih2 _ _ ix62 (lpL hk2)
                        refine g_icmp_gt C dX12_cut_140 ix47 (by decide) rfl (tgt := 179) (fun c51 => ?_) (fun c51 => ?_)
                        · have h := ifT c51 h
                          exact hJ179_63 x50 ix50 h
                        · have h := ifF c51 h
                          refine g_iconst C dX12_cut_143 ?_
                          refine g_istore (L1 := [some (rv w 170), some (iv x3), none, some (iv x47), some (jv x48), none, some (iv x50), some (iv 0)]) C dX12_cut_144 rfl (Nat.le_of_ble_eq_true rfl) rfl ?_
                          obtain ⟨b52, hb52, hF52⟩ := bnd h
                          have hX52 : ∀ (x59 : Int) , InI x59 → x59 = b52 → GM w p l e rm_X12_cut s m args below meth c none True σ' 8 179 [some (rv w 170), some (iv x3), none, some (iv x47), some (jv x48), none, some (iv x59), none] [] σ4 := by
                            intro x59 ix59 q
                            subst q
                            have h := hF52
                            exact hJ179_63 x59 ix59 h
                          have hL52 : ∀ (n : Nat) (x53 : Int) (x54 : Int) , InI x53 → InI x54 → lpN (fun a => m_X12_cut_L146 σ4 x48 a.1 a.2) n (x53, x54) = some b52 → GM w p l e rm_X12_cut s m args below meth c none True σ' 8 146 [some (rv w 170), some (iv x3), none, some (iv x47), some (jv x48), none, some (iv x53), some (iv x54)] [] σ4 := by
                            intro n
                            induction n with
                            | zero => intro x53 x54 ix53 ix54 q; cases q
                            | succ n ih52 =>
                              intro x53 x54 ix53 ix54 q
                              obtain ⟨o52, h, hk52⟩ := lp_step q
                              replace h : m_X12_cut_L146 σ4 x48 x53 x54 = some o52 := h
                              unfold m_X12_cut_L146 at h
                              refine g_iload C dX12_cut_146 rfl ?_
                              refine g_bipush C dX12_cut_148 rfl ?_
                              refine g_icmp_ge C dX12_cut_150 ix54 (by decide) rfl (tgt := 179) (fun c55 => ?_) (fun c55 => ?_)
                              · have h := ifT c55 h
                                refine g_mask [true, true, true, true, true, true, true, false] ?_
                                obtain rfl := Option.some.inj h
                                exact hX52 x53 ix53 (lpR hk52).symm
                              · have h := ifF c55 h
                                refine g_aload_n C dX12_cut_153 rfl ?_
                                refine g_getR (j := 9) C dX12_cut_154 rfl (Nat.le_of_ble_eq_true rfl) (Nat.le_of_ble_eq_true rfl) fl_12_34 rfl rfl (r := 177) rfl ?_
                                refine g_iload C dX12_cut_157 rfl ?_
                                obtain ⟨x56, qx56, h⟩ := bnd h
                                refine g_lald C dX12_cut_159 rfl rfl qx56 ix54 (fun ix56 => ?_)
                                refine g_lload C dX12_cut_160 rfl ?_
                                refine g_lcmp C dX12_cut_162 ix56 ix48 ?_
                                refine g_if_ne C dX12_cut_163 (ilcI _ _) rfl (tgt := 173) (fun c57 => ?_) (fun c57 => ?_)
                                · have h := ifF c57 h
                                  refine g_iinc (L1 := [some (rv w 170), some (iv x3), none, some (iv x47), some (jv x48), none, some (iv x53), some (iv (wr (x54 + 1)))]) C dX12_cut_173 rfl rfl (Nat.le_of_ble_eq_true rfl) rfl ?_
                                  refine g_goto C dX12_cut_176 rfl (tgt := 146) ?_
                                  obtain rfl := Option.some.inj h
                                  exact ih52 _ _ ix53 (iwr _) (lpL hk52)
                                · have h := ifT c57 h
                                  refine g_bipush C dX12_cut_166 rfl ?_
                                  refine g_iload C dX12_cut_168 rfl ?_
                                  refine g_iadd C dX12_cut_170 ?_
                                  obtain ⟨x58, qx58, h⟩ := bnd h
                                  have qx58 := Option.some.inj qx58
                                  have ix58 : InI x58 := by rw [← qx58]; exact (iwr _)
                                  refine g_E qx58 ?_
                                  refine g_istore (L1 := [some (rv w 170), some (iv x3), none, some (iv x47), some (jv x48), none, some (iv x58), some (iv x54)]) C dX12_cut_171 rfl (Nat.le_of_ble_eq_true rfl) rfl ?_
                                  refine g_iinc (L1 := [some (rv w 170), some (iv x3), none, some (iv x47), some (jv x48), none, some (iv x58), some (iv (wr (x54 + 1)))]) C dX12_cut_173 rfl rfl (Nat.le_of_ble_eq_true rfl) rfl ?_
                                  refine g_goto C dX12_cut_176 rfl (tgt := 146) ?_
                                  obtain rfl := Option.some.inj h
                                  exact ih52 _ _ ix58 (iwr _) (lpL hk52)
                          exact hL52 FU _ _ ix50 (by decide) hb52
                      refine g_icmp_le C dX12_cut_127 ix47 (by decide) rfl (tgt := 134) (fun c49 => ?_) (fun c49 => ?_)
                      · have h := ifT c49 h
                        refine g_iconst C dX12_cut_134 ?_
                        exact hJ135_64 1 (by decide) h
                      · have h := ifF c49 h
                        refine g_iconst C dX12_cut_130 ?_
                        refine g_goto C dX12_cut_131 rfl (tgt := 135) ?_
                        exact hJ135_64 3 (by decide) h
                    have hL38 : ∀ (n : Nat) (x39 : Int) (x40 : Int) , InI x39 → InL x40 → lpN (fun a => m_X12_cut_L85 x3 σ4 a.1 a.2) n (x39, x40) = some b38 → GM w p l e rm_X12_cut s m args below meth c none True σ' 8 85 [some (rv w 170), some (iv x3), none, some (iv x39), some (jv x40), none, none, none] [] σ4 := by
                      intro n
                      induction n with
                      | zero => intro x39 x40 ix39 ix40 q; cases q
                      | succ n ih38 =>
                        intro x39 x40 ix39 ix40 q
                        obtain ⟨o38, h, hk38⟩ := lp_step q
                        replace h : m_X12_cut_L85 x3 σ4 x39 x40 = some o38 := h
                        unfold m_X12_cut_L85 at h
                        refine g_aload_n C dX12_cut_85 rfl ?_
                        refine g_iload_n C dX12_cut_86 rfl ?_
                        refine g_iload_n C dX12_cut_87 rfl ?_
                        refine g_iadd C dX12_cut_88 ?_
                        obtain ⟨x41, qx41, h⟩ := bnd h
                        refine g_callV1 (As := [iv (wr (x3 + x39))]) C dX12_cut_89 mi_X12_at ml_12_241 (ct_X12_at (iwr _) qx41) rfl rfl ⟨rfl, rfl⟩ ⟨Nat.le_of_ble_eq_true rfl, Nat.le_of_ble_eq_true rfl⟩ ⟨Nat.zero_le _, Nat.zero_le _⟩ rfl (Nat.le_of_ble_eq_true rfl) (fun ix41 => ?_)
                        obtain ⟨x42, qx42, h⟩ := bnd h
                        refine g_callS1 (As := [iv x41]) C dX12_cut_92 mi_X12_isLetter ml_12_249 (ct_X12_isLetter ix41 qx42) rfl ⟨rfl, rfl⟩ ⟨Nat.le_of_ble_eq_true rfl, Nat.le_of_ble_eq_true rfl⟩ ⟨Nat.zero_le _, Nat.zero_le _⟩ rfl (Nat.le_of_ble_eq_true rfl) (fun ix42 => ?_)
                        refine g_if_eq C dX12_cut_95 (zI ix42) rfl (tgt := 124) (fun c43 => ?_) (fun c43 => ?_)
                        · have h := ifT c43 h
                          obtain rfl := Option.some.inj h
                          exact hX38 x39 x40 ix39 ix40 (lpR hk38).symm
                        · have h := ifF c43 h
                          refine g_iload_n C dX12_cut_98 rfl ?_
                          refine g_bipush C dX12_cut_99 rfl ?_
                          refine g_icmp_ge C dX12_cut_101 ix39 (by decide) rfl (tgt := 118) (fun c44 => ?_) (fun c44 => ?_)
                          · have h := ifT c44 h
                            refine g_iinc (L1 := [some (rv w 170), some (iv x3), none, some (iv (wr (x39 + 1))), some (jv x40), none, none, none]) C dX12_cut_118 rfl rfl (Nat.le_of_ble_eq_true rfl) rfl ?_
                            refine g_goto C dX12_cut_121 rfl (tgt := 85) ?_
                            obtain rfl := Option.some.inj h
                            exact ih38 _ _ (iwr _) ix40 (lpL hk38)
                          · have h := ifF c44 h
                            refine g_lload C dX12_cut_104 rfl ?_
                            refine g_aload_n C dX12_cut_106 rfl ?_
                            refine g_iload_n C dX12_cut_107 rfl ?_
                            refine g_iload_n C dX12_cut_108 rfl ?_
                            refine g_iadd C dX12_cut_109 ?_
                            obtain ⟨x45, qx45, h⟩ := bnd h
                            refine g_callV1 (As := [iv (wr (x3 + x39))]) C dX12_cut_110 mi_X12_at ml_12_241 (ct_X12_at (iwr _) qx45) rfl rfl ⟨rfl, rfl⟩ ⟨Nat.le_of_ble_eq_true rfl, Nat.le_of_ble_eq_true rfl⟩ ⟨Nat.zero_le _, Nat.zero_le _⟩ rfl (Nat.le_of_ble_eq_true rfl) (fun ix45 => ?_)
                            obtain ⟨x46, qx46, h⟩ := bnd h
                            refine g_callS1 (As := [jv x40, iv x45]) C dX12_cut_113 mi_X12_more ml_12_234 (ct_X12_more ix40 ix45 qx46) rfl ⟨rfl, rfl⟩ ⟨Nat.le_of_ble_eq_true rfl, Nat.le_of_ble_eq_true rfl⟩ ⟨Nat.zero_le _, Nat.zero_le _⟩ rfl (Nat.le_of_ble_eq_true rfl) (fun ix46 => ?_)
                            refine g_lstore (L1 := [some (rv w 170), some (iv x3), none, some (iv x39), some (jv x46), none, none, none]) C dX12_cut_116 rfl (Nat.le_of_ble_eq_true rfl) rfl ?_
                            refine g_iinc (L1 := [some (rv w 170), some (iv x3), none, some (iv (wr (x39 + 1))), some (jv x46), none, none, none]) C dX12_cut_118 rfl rfl (Nat.le_of_ble_eq_true rfl) rfl ?_
                            refine g_goto C dX12_cut_121 rfl (tgt := 85) ?_
                            obtain rfl := Option.some.inj h
                            exact ih38 _ _ (iwr _) ix46 (lpL hk38)
                    exact hL38 FU _ _ (by decide) (by decide) hb38
                · have h := ifT c13 h
                  refine g_iinc (L1 := [some (rv w 170), some (iv (wr (x3 + 1))), some (iv x7), none, none, none, none, none]) C dX12_cut_67 rfl rfl (Nat.le_of_ble_eq_true rfl) rfl ?_
                  refine g_goto C dX12_cut_70 rfl (tgt := 296) ?_
                  refine g_goto C dX12_cut_296 rfl (tgt := 7) ?_
                  refine g_mask [true, true, false, true, true, true, true, true] ?_
                  obtain rfl := Option.some.inj h
                  exact ih2 _ _ (iwr _) (lpL hk2)
        · have h := ifF c9 h
          refine g_aload_n C dX12_cut_31 rfl ?_
          refine g_iconst C dX12_cut_32 ?_
          refine g_aload_n C dX12_cut_33 rfl ?_
          refine g_getI (j := 4) C dX12_cut_34 rfl (Nat.le_of_ble_eq_true rfl) (Nat.le_of_ble_eq_true rfl) fl_12_229 rfl rfl (fun i65 => ?_)
          refine g_iconst C dX12_cut_37 ?_
          refine g_lconst0 C dX12_cut_38 ?_
          obtain ⟨σ66, qσ66, h⟩ := bnd h
          refine g_callV0 (As := [iv 0, iv (σ4 170 4), iv 0, jv 0]) C dX12_cut_39 mi_X12_token ml_12_245 (ct_X12_token (by decide) i65 (by decide) (by decide) qσ66) rfl rfl ⟨rfl, rfl⟩ ⟨Nat.le_of_ble_eq_true rfl, Nat.le_of_ble_eq_true rfl⟩ ⟨Nat.zero_le _, Nat.zero_le _⟩ rfl (Nat.le_of_ble_eq_true rfl) (fun _ => ?_)
          obtain rfl := Option.some.inj h
          have e2 := (lpR hk2).symm
          subst e2
          have h := hF2
          exact g_vretP C dX12_cut_42 hr hlk h
  exact hL2 FU _ _ (by decide) hb2
theorem dX12_is_0 : decode cX12_is 0 = .ok (.aload_n 0, 1) := by decide +kernel
theorem dX12_is_1 : decode cX12_is 1 = .ok (.getfield 256, 3) := by decide +kernel
theorem dX12_is_4 : decode cX12_is 4 = .ok (.ifCond .ne 20, 3) := by decide +kernel
theorem dX12_is_7 : decode cX12_is 7 = .ok (.aload_n 0, 1) := by decide +kernel
theorem dX12_is_8 : decode cX12_is 8 = .ok (.getfield 20, 3) := by decide +kernel
theorem dX12_is_11 : decode cX12_is 11 = .ok (.aload_n 0, 1) := by decide +kernel
theorem dX12_is_12 : decode cX12_is 12 = .ok (.getfield 259, 3) := by decide +kernel
theorem dX12_is_15 : decode cX12_is 15 = .ok (.iaload, 1) := by decide +kernel
theorem dX12_is_16 : decode cX12_is 16 = .ok (.iload_n 1, 1) := by decide +kernel
theorem dX12_is_17 : decode cX12_is 17 = .ok (.if_icmp .ne 7, 3) := by decide +kernel
theorem dX12_is_20 : decode cX12_is 20 = .ok (.iconst 1, 1) := by decide +kernel
theorem dX12_is_21 : decode cX12_is 21 = .ok (.goto 4, 3) := by decide +kernel
theorem dX12_is_24 : decode cX12_is 24 = .ok (.iconst 0, 1) := by decide +kernel
theorem dX12_is_25 : decode cX12_is 25 = .ok (.ireturn, 1) := by decide +kernel
abbrev rm_X12_is : Room := { frames := 0, cells := 0, slots := 0, locals := 0 }
set_option maxRecDepth 100000 in
set_option maxHeartbeats 4000000 in
theorem ct_X12_is {w : Wd} {l : Launch} {a1 : Int} {σ : St} {y : Int} (ia1 : InI a1) (h : m_X12_is a1 σ = some y) : Ct w l yX12_is (Cond.code yX12_is cX12_is 2 (some .boolean) :: TB) rm_X12_is [rv w 170, iv a1] σ (some (iv y)) (InZ y) σ := by
  refine Ct.of2 [some (rv w 170), some (iv a1)] 0 rfl pn_RX12 (Nat.le_of_ble_eq_true rfl) ?_
  intro p e s m args below meth c C hr hlk
  unfold m_X12_is at h
  refine g_aload_n C dX12_is_0 rfl ?_
  refine g_getI (j := 12) C dX12_is_1 rfl (Nat.le_of_ble_eq_true rfl) (Nat.le_of_ble_eq_true rfl) fl_12_256 rfl rfl (fun i1 => ?_)
  refine g_if_ne C dX12_is_4 i1 rfl (tgt := 24) (fun c2 => ?_) (fun c2 => ?_)
  · have h := ifF c2 h
    refine g_iconst C dX12_is_24 ?_
    exact g_zretU C dX12_is_25 hr hlk h (Or.inl rfl)
  · have h := ifT c2 h
    refine g_aload_n C dX12_is_7 rfl ?_
    refine g_getR (j := 5) C dX12_is_8 rfl (Nat.le_of_ble_eq_true rfl) (Nat.le_of_ble_eq_true rfl) fl_12_20 rfl rfl (r := 173) rfl ?_
    refine g_aload_n C dX12_is_11 rfl ?_
    refine g_getI (j := 11) C dX12_is_12 rfl (Nat.le_of_ble_eq_true rfl) (Nat.le_of_ble_eq_true rfl) fl_12_259 rfl rfl (fun i3 => ?_)
    obtain ⟨x4, qx4, h⟩ := bnd h
    refine g_iald C dX12_is_15 rfl rfl qx4 i3 (fun ix4 => ?_)
    refine g_iload_n C dX12_is_16 rfl ?_
    refine g_icmp_ne C dX12_is_17 ix4 ia1 rfl (tgt := 24) (fun c5 => ?_) (fun c5 => ?_)
    · have h := ifF c5 h
      refine g_iconst C dX12_is_24 ?_
      exact g_zretU C dX12_is_25 hr hlk h (Or.inl rfl)
    · have h := ifT c5 h
      refine g_iconst C dX12_is_20 ?_
      refine g_goto C dX12_is_21 rfl (tgt := 25) ?_
      exact g_zretU C dX12_is_25 hr hlk h (Or.inr rfl)
theorem dX12_fail_0 : decode cX12_fail 0 = .ok (.aload_n 0, 1) := by decide +kernel
theorem dX12_fail_1 : decode cX12_fail 1 = .ok (.getfield 256, 3) := by decide +kernel
theorem dX12_fail_4 : decode cX12_fail 4 = .ok (.ifCond .le 4, 3) := by decide +kernel
theorem dX12_fail_7 : decode cX12_fail 7 = .ok (.return_, 1) := by decide +kernel
theorem dX12_fail_8 : decode cX12_fail 8 = .ok (.aload_n 0, 1) := by decide +kernel
theorem dX12_fail_9 : decode cX12_fail 9 = .ok (.iload_n 1, 1) := by decide +kernel
theorem dX12_fail_10 : decode cX12_fail 10 = .ok (.putfield 256, 3) := by decide +kernel
theorem dX12_fail_13 : decode cX12_fail 13 = .ok (.aload_n 0, 1) := by decide +kernel
theorem dX12_fail_14 : decode cX12_fail 14 = .ok (.aload_n 0, 1) := by decide +kernel
theorem dX12_fail_15 : decode cX12_fail 15 = .ok (.getfield 24, 3) := by decide +kernel
theorem dX12_fail_18 : decode cX12_fail 18 = .ok (.aload_n 0, 1) := by decide +kernel
theorem dX12_fail_19 : decode cX12_fail 19 = .ok (.getfield 259, 3) := by decide +kernel
theorem dX12_fail_22 : decode cX12_fail 22 = .ok (.iaload, 1) := by decide +kernel
theorem dX12_fail_23 : decode cX12_fail 23 = .ok (.putfield 262, 3) := by decide +kernel
theorem dX12_fail_26 : decode cX12_fail 26 = .ok (.return_, 1) := by decide +kernel
abbrev rm_X12_fail : Room := { frames := 0, cells := 0, slots := 0, locals := 0 }
set_option maxRecDepth 100000 in
set_option maxHeartbeats 4000000 in
theorem ct_X12_fail {w : Wd} {l : Launch} {a1 : Int} {σ : St} {σ' : St} (ia1 : InI a1) (h : m_X12_fail a1 σ = some σ') : Ct w l yX12_fail (Cond.code yX12_fail cX12_fail 2 none :: TB) rm_X12_fail [rv w 170, iv a1] σ none True σ' := by
  refine Ct.of2 [some (rv w 170), some (iv a1)] 0 rfl pn_RX12 (Nat.le_of_ble_eq_true rfl) ?_
  intro p e s m args below meth c C hr hlk
  unfold m_X12_fail at h
  refine g_aload_n C dX12_fail_0 rfl ?_
  refine g_getI (j := 12) C dX12_fail_1 rfl (Nat.le_of_ble_eq_true rfl) (Nat.le_of_ble_eq_true rfl) fl_12_256 rfl rfl (fun i1 => ?_)
  refine g_if_le C dX12_fail_4 i1 rfl (tgt := 8) (fun c2 => ?_) (fun c2 => ?_)
  · have h := ifT c2 h
    refine g_aload_n C dX12_fail_8 rfl ?_
    refine g_iload_n C dX12_fail_9 rfl ?_
    obtain ⟨σ3, qσ3, h⟩ := bnd h
    refine g_putI (j := 12) C dX12_fail_10 rfl (Nat.le_of_ble_eq_true rfl) (Nat.le_of_ble_eq_true rfl) fl_12_256 rfl rfl rfl rfl qσ3 ia1 ?_
    refine g_aload_n C dX12_fail_13 rfl ?_
    refine g_aload_n C dX12_fail_14 rfl ?_
    refine g_getR (j := 6) C dX12_fail_15 rfl (Nat.le_of_ble_eq_true rfl) (Nat.le_of_ble_eq_true rfl) fl_12_24 rfl rfl (r := 174) rfl ?_
    refine g_aload_n C dX12_fail_18 rfl ?_
    refine g_getI (j := 11) C dX12_fail_19 rfl (Nat.le_of_ble_eq_true rfl) (Nat.le_of_ble_eq_true rfl) fl_12_259 rfl rfl (fun i4 => ?_)
    obtain ⟨x5, qx5, h⟩ := bnd h
    refine g_iald C dX12_fail_22 rfl rfl qx5 i4 (fun ix5 => ?_)
    obtain ⟨σ6, qσ6, h⟩ := bnd h
    refine g_putI (j := 13) C dX12_fail_23 rfl (Nat.le_of_ble_eq_true rfl) (Nat.le_of_ble_eq_true rfl) fl_12_262 rfl rfl rfl rfl qσ6 ix5 ?_
    exact g_vretP C dX12_fail_26 hr hlk h
  · have h := ifF c2 h
    exact g_vretP C dX12_fail_7 hr hlk h
theorem dX12_wrong_0 : decode cX12_wrong 0 = .ok (.aload_n 0, 1) := by decide +kernel
theorem dX12_wrong_1 : decode cX12_wrong 1 = .ok (.getfield 24, 3) := by decide +kernel
theorem dX12_wrong_4 : decode cX12_wrong 4 = .ok (.iload_n 2, 1) := by decide +kernel
theorem dX12_wrong_5 : decode cX12_wrong 5 = .ok (.iaload, 1) := by decide +kernel
theorem dX12_wrong_6 : decode cX12_wrong 6 = .ok (.istore_n 3, 1) := by decide +kernel
theorem dX12_wrong_7 : decode cX12_wrong 7 = .ok (.aload_n 0, 1) := by decide +kernel
theorem dX12_wrong_8 : decode cX12_wrong 8 = .ok (.getfield 256, 3) := by decide +kernel
theorem dX12_wrong_11 : decode cX12_wrong 11 = .ok (.ifCond .gt 34, 3) := by decide +kernel
theorem dX12_wrong_14 : decode cX12_wrong 14 = .ok (.aload_n 0, 1) := by decide +kernel
theorem dX12_wrong_15 : decode cX12_wrong 15 = .ok (.getfield 265, 3) := by decide +kernel
theorem dX12_wrong_18 : decode cX12_wrong 18 = .ok (.ifCond .eq 28, 3) := by decide +kernel
theorem dX12_wrong_21 : decode cX12_wrong 21 = .ok (.iload_n 3, 1) := by decide +kernel
theorem dX12_wrong_22 : decode cX12_wrong 22 = .ok (.aload_n 0, 1) := by decide +kernel
theorem dX12_wrong_23 : decode cX12_wrong 23 = .ok (.getfield 268, 3) := by decide +kernel
theorem dX12_wrong_26 : decode cX12_wrong 26 = .ok (.if_icmp .gt 19, 3) := by decide +kernel
theorem dX12_wrong_29 : decode cX12_wrong 29 = .ok (.iload_n 3, 1) := by decide +kernel
theorem dX12_wrong_30 : decode cX12_wrong 30 = .ok (.aload_n 0, 1) := by decide +kernel
theorem dX12_wrong_31 : decode cX12_wrong 31 = .ok (.getfield 268, 3) := by decide +kernel
theorem dX12_wrong_34 : decode cX12_wrong 34 = .ok (.if_icmp .ne 12, 3) := by decide +kernel
theorem dX12_wrong_37 : decode cX12_wrong 37 = .ok (.iload_n 1, 1) := by decide +kernel
theorem dX12_wrong_38 : decode cX12_wrong 38 = .ok (.aload_n 0, 1) := by decide +kernel
theorem dX12_wrong_39 : decode cX12_wrong 39 = .ok (.getfield 265, 3) := by decide +kernel
theorem dX12_wrong_42 : decode cX12_wrong 42 = .ok (.if_icmp .lt 4, 3) := by decide +kernel
theorem dX12_wrong_45 : decode cX12_wrong 45 = .ok (.return_, 1) := by decide +kernel
theorem dX12_wrong_46 : decode cX12_wrong 46 = .ok (.aload_n 0, 1) := by decide +kernel
theorem dX12_wrong_47 : decode cX12_wrong 47 = .ok (.iload_n 1, 1) := by decide +kernel
theorem dX12_wrong_48 : decode cX12_wrong 48 = .ok (.putfield 265, 3) := by decide +kernel
theorem dX12_wrong_51 : decode cX12_wrong 51 = .ok (.aload_n 0, 1) := by decide +kernel
theorem dX12_wrong_52 : decode cX12_wrong 52 = .ok (.iload_n 3, 1) := by decide +kernel
theorem dX12_wrong_53 : decode cX12_wrong 53 = .ok (.putfield 268, 3) := by decide +kernel
theorem dX12_wrong_56 : decode cX12_wrong 56 = .ok (.return_, 1) := by decide +kernel
abbrev rm_X12_wrong : Room := { frames := 0, cells := 0, slots := 0, locals := 0 }
set_option maxRecDepth 100000 in
set_option maxHeartbeats 4000000 in
theorem ct_X12_wrong {w : Wd} {l : Launch} {a1 : Int} {a2 : Int} {σ : St} {σ' : St} (ia1 : InI a1) (ia2 : InI a2) (h : m_X12_wrong a1 a2 σ = some σ') : Ct w l yX12_wrong (Cond.code yX12_wrong cX12_wrong 4 none :: TB) rm_X12_wrong [rv w 170, iv a1, iv a2] σ none True σ' := by
  refine Ct.of2 [some (rv w 170), some (iv a1), some (iv a2), none] 1 rfl pn_RX12 (Nat.le_of_ble_eq_true rfl) ?_
  intro p e s m args below meth c C hr hlk
  unfold m_X12_wrong at h
  refine g_aload_n C dX12_wrong_0 rfl ?_
  refine g_getR (j := 6) C dX12_wrong_1 rfl (Nat.le_of_ble_eq_true rfl) (Nat.le_of_ble_eq_true rfl) fl_12_24 rfl rfl (r := 174) rfl ?_
  refine g_iload_n C dX12_wrong_4 rfl ?_
  obtain ⟨x1, qx1, h⟩ := bnd h
  refine g_iald C dX12_wrong_5 rfl rfl qx1 ia2 (fun ix1 => ?_)
  refine g_istore_n (L1 := [some (rv w 170), some (iv a1), some (iv a2), some (iv x1)]) C dX12_wrong_6 rfl (Nat.le_of_ble_eq_true rfl) rfl ?_
  refine g_aload_n C dX12_wrong_7 rfl ?_
  refine g_getI (j := 12) C dX12_wrong_8 rfl (Nat.le_of_ble_eq_true rfl) (Nat.le_of_ble_eq_true rfl) fl_12_256 rfl rfl (fun i2 => ?_)
  refine g_if_gt C dX12_wrong_11 i2 rfl (tgt := 45) (fun c3 => ?_) (fun c3 => ?_)
  · have h := ifT c3 h
    exact g_vretP C dX12_wrong_45 hr hlk h
  · have h := ifF c3 h
    refine g_aload_n C dX12_wrong_14 rfl ?_
    refine g_getI (j := 14) C dX12_wrong_15 rfl (Nat.le_of_ble_eq_true rfl) (Nat.le_of_ble_eq_true rfl) fl_12_265 rfl rfl (fun i4 => ?_)
    have hJ46_14 : m_X12_wrong_J46 σ a1 x1 = some σ' → GM w p l e rm_X12_wrong s m args below meth c none True σ' 4 46 [some (rv w 170), some (iv a1), none, some (iv x1)] [] σ := by
      intro h
      unfold m_X12_wrong_J46 at h
      refine g_aload_n C dX12_wrong_46 rfl ?_
      refine g_iload_n C dX12_wrong_47 rfl ?_
      obtain ⟨σ12, qσ12, h⟩ := bnd h
      refine g_putI (j := 14) C dX12_wrong_48 rfl (Nat.le_of_ble_eq_true rfl) (Nat.le_of_ble_eq_true rfl) fl_12_265 rfl rfl rfl rfl qσ12 ia1 ?_
      refine g_aload_n C dX12_wrong_51 rfl ?_
      refine g_iload_n C dX12_wrong_52 rfl ?_
      obtain ⟨σ13, qσ13, h⟩ := bnd h
      refine g_putI (j := 15) C dX12_wrong_53 rfl (Nat.le_of_ble_eq_true rfl) (Nat.le_of_ble_eq_true rfl) fl_12_268 rfl rfl rfl rfl qσ13 ix1 ?_
      exact g_vretP C dX12_wrong_56 hr hlk h
    refine g_if_eq C dX12_wrong_18 i4 rfl (tgt := 46) (fun c5 => ?_) (fun c5 => ?_)
    · have h := ifT c5 h
      refine g_mask [true, true, false, true] ?_
      exact hJ46_14  h
    · have h := ifF c5 h
      refine g_iload_n C dX12_wrong_21 rfl ?_
      refine g_aload_n C dX12_wrong_22 rfl ?_
      refine g_getI (j := 15) C dX12_wrong_23 rfl (Nat.le_of_ble_eq_true rfl) (Nat.le_of_ble_eq_true rfl) fl_12_268 rfl rfl (fun i6 => ?_)
      refine g_icmp_gt C dX12_wrong_26 ix1 i6 rfl (tgt := 45) (fun c7 => ?_) (fun c7 => ?_)
      · have h := ifT c7 h
        exact g_vretP C dX12_wrong_45 hr hlk h
      · have h := ifF c7 h
        refine g_iload_n C dX12_wrong_29 rfl ?_
        refine g_aload_n C dX12_wrong_30 rfl ?_
        refine g_getI (j := 15) C dX12_wrong_31 rfl (Nat.le_of_ble_eq_true rfl) (Nat.le_of_ble_eq_true rfl) fl_12_268 rfl rfl (fun i8 => ?_)
        refine g_icmp_ne C dX12_wrong_34 ix1 i8 rfl (tgt := 46) (fun c9 => ?_) (fun c9 => ?_)
        · have h := ifF c9 h
          refine g_mask [true, true, false, true] ?_
          exact hJ46_14  h
        · have h := ifT c9 h
          refine g_iload_n C dX12_wrong_37 rfl ?_
          refine g_aload_n C dX12_wrong_38 rfl ?_
          refine g_getI (j := 14) C dX12_wrong_39 rfl (Nat.le_of_ble_eq_true rfl) (Nat.le_of_ble_eq_true rfl) fl_12_265 rfl rfl (fun i10 => ?_)
          refine g_icmp_lt C dX12_wrong_42 ia1 i10 rfl (tgt := 46) (fun c11 => ?_) (fun c11 => ?_)
          · have h := ifT c11 h
            refine g_mask [true, true, false, true] ?_
            exact hJ46_14  h
          · have h := ifF c11 h
            exact g_vretP C dX12_wrong_45 hr hlk h
theorem dX12_next_0 : decode cX12_next 0 = .ok (.aload_n 0, 1) := by decide +kernel
theorem dX12_next_1 : decode cX12_next 1 = .ok (.getfield 259, 3) := by decide +kernel
theorem dX12_next_4 : decode cX12_next 4 = .ok (.sipush 500, 3) := by decide +kernel
theorem dX12_next_7 : decode cX12_next 7 = .ok (.if_icmp .ne 11, 3) := by decide +kernel
theorem dX12_next_10 : decode cX12_next 10 = .ok (.aload_n 0, 1) := by decide +kernel
theorem dX12_next_11 : decode cX12_next 11 = .ok (.iconst 2, 1) := by decide +kernel
theorem dX12_next_12 : decode cX12_next 12 = .ok (.invokevirtual 271, 3) := by decide +kernel
theorem dX12_next_15 : decode cX12_next 15 = .ok (.goto 13, 3) := by decide +kernel
theorem dX12_next_18 : decode cX12_next 18 = .ok (.aload_n 0, 1) := by decide +kernel
theorem dX12_next_19 : decode cX12_next 19 = .ok (.dup, 1) := by decide +kernel
theorem dX12_next_20 : decode cX12_next 20 = .ok (.getfield 259, 3) := by decide +kernel
theorem dX12_next_23 : decode cX12_next 23 = .ok (.iconst 1, 1) := by decide +kernel
theorem dX12_next_24 : decode cX12_next 24 = .ok (.iadd, 1) := by decide +kernel
theorem dX12_next_25 : decode cX12_next 25 = .ok (.putfield 259, 3) := by decide +kernel
theorem dX12_next_28 : decode cX12_next 28 = .ok (.return_, 1) := by decide +kernel
abbrev rm_X12_next : Room := { frames := 1, cells := 0, slots := 0, locals := 21 }
set_option maxRecDepth 100000 in
set_option maxHeartbeats 4000000 in
theorem ct_X12_next {w : Wd} {l : Launch} {σ : St} {σ' : St} (h : m_X12_next σ = some σ') : Ct w l yX12_next (Cond.code yX12_next cX12_next 1 none :: TB) rm_X12_next [rv w 170] σ none True σ' := by
  refine Ct.of2 [some (rv w 170)] 0 rfl pn_RX12 (Nat.le_of_ble_eq_true rfl) ?_
  intro p e s m args below meth c C hr hlk
  unfold m_X12_next at h
  refine g_aload_n C dX12_next_0 rfl ?_
  refine g_getI (j := 11) C dX12_next_1 rfl (Nat.le_of_ble_eq_true rfl) (Nat.le_of_ble_eq_true rfl) fl_12_259 rfl rfl (fun i1 => ?_)
  refine g_sipush C dX12_next_4 rfl ?_
  refine g_icmp_ne C dX12_next_7 i1 (by decide) rfl (tgt := 18) (fun c2 => ?_) (fun c2 => ?_)
  · have h := ifF c2 h
    refine g_aload_n C dX12_next_18 rfl ?_
    refine g_dup C dX12_next_19 rfl ?_
    refine g_getI (j := 11) C dX12_next_20 rfl (Nat.le_of_ble_eq_true rfl) (Nat.le_of_ble_eq_true rfl) fl_12_259 rfl rfl (fun i3 => ?_)
    refine g_iconst C dX12_next_23 ?_
    refine g_iadd C dX12_next_24 ?_
    obtain ⟨σ4, qσ4, h⟩ := bnd h
    refine g_putI (j := 11) C dX12_next_25 rfl (Nat.le_of_ble_eq_true rfl) (Nat.le_of_ble_eq_true rfl) fl_12_259 rfl rfl rfl rfl qσ4 (iwr _) ?_
    exact g_vretP C dX12_next_28 hr hlk h
  · have h := ifT c2 h
    refine g_aload_n C dX12_next_10 rfl ?_
    refine g_iconst C dX12_next_11 ?_
    obtain ⟨σ5, qσ5, h⟩ := bnd h
    refine g_callV0 (As := [iv 2]) C dX12_next_12 mi_X12_fail ml_12_271 (ct_X12_fail (by decide) qσ5) rfl rfl ⟨rfl, rfl⟩ ⟨Nat.le_of_ble_eq_true rfl, Nat.le_of_ble_eq_true rfl⟩ ⟨Nat.zero_le _, Nat.zero_le _⟩ rfl (Nat.le_of_ble_eq_true rfl) (fun _ => ?_)
    refine g_goto C dX12_next_15 rfl (tgt := 28) ?_
    exact g_vretP C dX12_next_28 hr hlk h
theorem dX12_must_0 : decode cX12_must 0 = .ok (.aload_n 0, 1) := by decide +kernel
theorem dX12_must_1 : decode cX12_must 1 = .ok (.iload_n 1, 1) := by decide +kernel
theorem dX12_must_2 : decode cX12_must 2 = .ok (.invokevirtual 274, 3) := by decide +kernel
theorem dX12_must_5 : decode cX12_must 5 = .ok (.ifCond .eq 10, 3) := by decide +kernel
theorem dX12_must_8 : decode cX12_must 8 = .ok (.aload_n 0, 1) := by decide +kernel
theorem dX12_must_9 : decode cX12_must 9 = .ok (.invokevirtual 277, 3) := by decide +kernel
theorem dX12_must_12 : decode cX12_must 12 = .ok (.goto 8, 3) := by decide +kernel
theorem dX12_must_15 : decode cX12_must 15 = .ok (.aload_n 0, 1) := by decide +kernel
theorem dX12_must_16 : decode cX12_must 16 = .ok (.iconst 1, 1) := by decide +kernel
theorem dX12_must_17 : decode cX12_must 17 = .ok (.invokevirtual 271, 3) := by decide +kernel
theorem dX12_must_20 : decode cX12_must 20 = .ok (.return_, 1) := by decide +kernel
abbrev rm_X12_must : Room := { frames := 2, cells := 0, slots := 0, locals := 41 }
set_option maxRecDepth 100000 in
set_option maxHeartbeats 4000000 in
theorem ct_X12_must {w : Wd} {l : Launch} {a1 : Int} {σ : St} {σ' : St} (ia1 : InI a1) (h : m_X12_must a1 σ = some σ') : Ct w l yX12_must (Cond.code yX12_must cX12_must 2 none :: TB) rm_X12_must [rv w 170, iv a1] σ none True σ' := by
  refine Ct.of2 [some (rv w 170), some (iv a1)] 0 rfl pn_RX12 (Nat.le_of_ble_eq_true rfl) ?_
  intro p e s m args below meth c C hr hlk
  unfold m_X12_must at h
  refine g_aload_n C dX12_must_0 rfl ?_
  refine g_iload_n C dX12_must_1 rfl ?_
  obtain ⟨x1, qx1, h⟩ := bnd h
  refine g_callV1 (As := [iv a1]) C dX12_must_2 mi_X12_is ml_12_274 (ct_X12_is ia1 qx1) rfl rfl ⟨rfl, rfl⟩ ⟨Nat.le_of_ble_eq_true rfl, Nat.le_of_ble_eq_true rfl⟩ ⟨Nat.zero_le _, Nat.zero_le _⟩ rfl (Nat.le_of_ble_eq_true rfl) (fun ix1 => ?_)
  refine g_if_eq C dX12_must_5 (zI ix1) rfl (tgt := 15) (fun c2 => ?_) (fun c2 => ?_)
  · have h := ifT c2 h
    refine g_aload_n C dX12_must_15 rfl ?_
    refine g_iconst C dX12_must_16 ?_
    obtain ⟨σ3, qσ3, h⟩ := bnd h
    refine g_callV0 (As := [iv 1]) C dX12_must_17 mi_X12_fail ml_12_271 (ct_X12_fail (by decide) qσ3) rfl rfl ⟨rfl, rfl⟩ ⟨Nat.le_of_ble_eq_true rfl, Nat.le_of_ble_eq_true rfl⟩ ⟨Nat.zero_le _, Nat.zero_le _⟩ rfl (Nat.le_of_ble_eq_true rfl) (fun _ => ?_)
    exact g_vretP C dX12_must_20 hr hlk h
  · have h := ifF c2 h
    refine g_aload_n C dX12_must_8 rfl ?_
    obtain ⟨σ4, qσ4, h⟩ := bnd h
    refine g_callV0 (As := []) C dX12_must_9 mi_X12_next ml_12_277 (ct_X12_next qσ4) rfl rfl ⟨rfl, rfl⟩ ⟨Nat.le_of_ble_eq_true rfl, Nat.le_of_ble_eq_true rfl⟩ ⟨Nat.zero_le _, Nat.zero_le _⟩ rfl (Nat.le_of_ble_eq_true rfl) (fun _ => ?_)
    refine g_goto C dX12_must_12 rfl (tgt := 20) ?_
    exact g_vretP C dX12_must_20 hr hlk h
theorem dX12_emit_0 : decode cX12_emit 0 = .ok (.aload_n 0, 1) := by decide +kernel
theorem dX12_emit_1 : decode cX12_emit 1 = .ok (.getfield 49, 3) := by decide +kernel
theorem dX12_emit_4 : decode cX12_emit 4 = .ok (.aload_n 0, 1) := by decide +kernel
theorem dX12_emit_5 : decode cX12_emit 5 = .ok (.getfield 289, 3) := by decide +kernel
theorem dX12_emit_8 : decode cX12_emit 8 = .ok (.iload_n 1, 1) := by decide +kernel
theorem dX12_emit_9 : decode cX12_emit 9 = .ok (.iastore, 1) := by decide +kernel
theorem dX12_emit_10 : decode cX12_emit 10 = .ok (.aload_n 0, 1) := by decide +kernel
theorem dX12_emit_11 : decode cX12_emit 11 = .ok (.getfield 52, 3) := by decide +kernel
theorem dX12_emit_14 : decode cX12_emit 14 = .ok (.aload_n 0, 1) := by decide +kernel
theorem dX12_emit_15 : decode cX12_emit 15 = .ok (.getfield 289, 3) := by decide +kernel
theorem dX12_emit_18 : decode cX12_emit 18 = .ok (.iload_n 2, 1) := by decide +kernel
theorem dX12_emit_19 : decode cX12_emit 19 = .ok (.iastore, 1) := by decide +kernel
theorem dX12_emit_20 : decode cX12_emit 20 = .ok (.aload_n 0, 1) := by decide +kernel
theorem dX12_emit_21 : decode cX12_emit 21 = .ok (.getfield 55, 3) := by decide +kernel
theorem dX12_emit_24 : decode cX12_emit 24 = .ok (.aload_n 0, 1) := by decide +kernel
theorem dX12_emit_25 : decode cX12_emit 25 = .ok (.getfield 289, 3) := by decide +kernel
theorem dX12_emit_28 : decode cX12_emit 28 = .ok (.iload_n 3, 1) := by decide +kernel
theorem dX12_emit_29 : decode cX12_emit 29 = .ok (.iastore, 1) := by decide +kernel
theorem dX12_emit_30 : decode cX12_emit 30 = .ok (.aload_n 0, 1) := by decide +kernel
theorem dX12_emit_31 : decode cX12_emit 31 = .ok (.getfield 58, 3) := by decide +kernel
theorem dX12_emit_34 : decode cX12_emit 34 = .ok (.aload_n 0, 1) := by decide +kernel
theorem dX12_emit_35 : decode cX12_emit 35 = .ok (.getfield 289, 3) := by decide +kernel
theorem dX12_emit_38 : decode cX12_emit 38 = .ok (.iload 4, 2) := by decide +kernel
theorem dX12_emit_40 : decode cX12_emit 40 = .ok (.iastore, 1) := by decide +kernel
theorem dX12_emit_41 : decode cX12_emit 41 = .ok (.aload_n 0, 1) := by decide +kernel
theorem dX12_emit_42 : decode cX12_emit 42 = .ok (.dup, 1) := by decide +kernel
theorem dX12_emit_43 : decode cX12_emit 43 = .ok (.getfield 289, 3) := by decide +kernel
theorem dX12_emit_46 : decode cX12_emit 46 = .ok (.iconst 1, 1) := by decide +kernel
theorem dX12_emit_47 : decode cX12_emit 47 = .ok (.iadd, 1) := by decide +kernel
theorem dX12_emit_48 : decode cX12_emit 48 = .ok (.putfield 289, 3) := by decide +kernel
theorem dX12_emit_51 : decode cX12_emit 51 = .ok (.return_, 1) := by decide +kernel
abbrev rm_X12_emit : Room := { frames := 0, cells := 0, slots := 0, locals := 0 }
set_option maxRecDepth 100000 in
set_option maxHeartbeats 4000000 in
theorem ct_X12_emit {w : Wd} {l : Launch} {a1 : Int} {a2 : Int} {a3 : Int} {a4 : Int} {σ : St} {σ' : St} (ia1 : InI a1) (ia2 : InI a2) (ia3 : InI a3) (ia4 : InI a4) (h : m_X12_emit a1 a2 a3 a4 σ = some σ') : Ct w l yX12_emit (Cond.code yX12_emit cX12_emit 5 none :: TB) rm_X12_emit [rv w 170, iv a1, iv a2, iv a3, iv a4] σ none True σ' := by
  refine Ct.of2 [some (rv w 170), some (iv a1), some (iv a2), some (iv a3), some (iv a4)] 0 rfl pn_RX12 (Nat.le_of_ble_eq_true rfl) ?_
  intro p e s m args below meth c C hr hlk
  unfold m_X12_emit at h
  refine g_aload_n C dX12_emit_0 rfl ?_
  refine g_getR (j := 23) C dX12_emit_1 rfl (Nat.le_of_ble_eq_true rfl) (Nat.le_of_ble_eq_true rfl) fl_12_49 rfl rfl (r := 181) rfl ?_
  refine g_aload_n C dX12_emit_4 rfl ?_
  refine g_getI (j := 22) C dX12_emit_5 rfl (Nat.le_of_ble_eq_true rfl) (Nat.le_of_ble_eq_true rfl) fl_12_289 rfl rfl (fun i1 => ?_)
  refine g_iload_n C dX12_emit_8 rfl ?_
  obtain ⟨σ2, qσ2, h⟩ := bnd h
  refine g_iast C dX12_emit_9 rfl rfl qσ2 i1 ia1 ?_
  refine g_aload_n C dX12_emit_10 rfl ?_
  refine g_getR (j := 24) C dX12_emit_11 rfl (Nat.le_of_ble_eq_true rfl) (Nat.le_of_ble_eq_true rfl) fl_12_52 rfl rfl (r := 182) rfl ?_
  refine g_aload_n C dX12_emit_14 rfl ?_
  refine g_getI (j := 22) C dX12_emit_15 rfl (Nat.le_of_ble_eq_true rfl) (Nat.le_of_ble_eq_true rfl) fl_12_289 rfl rfl (fun i3 => ?_)
  refine g_iload_n C dX12_emit_18 rfl ?_
  obtain ⟨σ4, qσ4, h⟩ := bnd h
  refine g_iast C dX12_emit_19 rfl rfl qσ4 i3 ia2 ?_
  refine g_aload_n C dX12_emit_20 rfl ?_
  refine g_getR (j := 25) C dX12_emit_21 rfl (Nat.le_of_ble_eq_true rfl) (Nat.le_of_ble_eq_true rfl) fl_12_55 rfl rfl (r := 183) rfl ?_
  refine g_aload_n C dX12_emit_24 rfl ?_
  refine g_getI (j := 22) C dX12_emit_25 rfl (Nat.le_of_ble_eq_true rfl) (Nat.le_of_ble_eq_true rfl) fl_12_289 rfl rfl (fun i5 => ?_)
  refine g_iload_n C dX12_emit_28 rfl ?_
  obtain ⟨σ6, qσ6, h⟩ := bnd h
  refine g_iast C dX12_emit_29 rfl rfl qσ6 i5 ia3 ?_
  refine g_aload_n C dX12_emit_30 rfl ?_
  refine g_getR (j := 26) C dX12_emit_31 rfl (Nat.le_of_ble_eq_true rfl) (Nat.le_of_ble_eq_true rfl) fl_12_58 rfl rfl (r := 184) rfl ?_
  refine g_aload_n C dX12_emit_34 rfl ?_
  refine g_getI (j := 22) C dX12_emit_35 rfl (Nat.le_of_ble_eq_true rfl) (Nat.le_of_ble_eq_true rfl) fl_12_289 rfl rfl (fun i7 => ?_)
  refine g_iload C dX12_emit_38 rfl ?_
  obtain ⟨σ8, qσ8, h⟩ := bnd h
  refine g_iast C dX12_emit_40 rfl rfl qσ8 i7 ia4 ?_
  refine g_aload_n C dX12_emit_41 rfl ?_
  refine g_dup C dX12_emit_42 rfl ?_
  refine g_getI (j := 22) C dX12_emit_43 rfl (Nat.le_of_ble_eq_true rfl) (Nat.le_of_ble_eq_true rfl) fl_12_289 rfl rfl (fun i9 => ?_)
  refine g_iconst C dX12_emit_46 ?_
  refine g_iadd C dX12_emit_47 ?_
  obtain ⟨σ10, qσ10, h⟩ := bnd h
  refine g_putI (j := 22) C dX12_emit_48 rfl (Nat.le_of_ble_eq_true rfl) (Nat.le_of_ble_eq_true rfl) fl_12_289 rfl rfl rfl rfl qσ10 (iwr _) ?_
  exact g_vretP C dX12_emit_51 hr hlk h
theorem dX12_ends_0 : decode cX12_ends 0 = .ok (.aload_n 0, 1) := by decide +kernel
theorem dX12_ends_1 : decode cX12_ends 1 = .ok (.dup, 1) := by decide +kernel
theorem dX12_ends_2 : decode cX12_ends 2 = .ok (.getfield 302, 3) := by decide +kernel
theorem dX12_ends_5 : decode cX12_ends 5 = .ok (.iconst 1, 1) := by decide +kernel
theorem dX12_ends_6 : decode cX12_ends 6 = .ok (.isub, 1) := by decide +kernel
theorem dX12_ends_7 : decode cX12_ends 7 = .ok (.putfield 302, 3) := by decide +kernel
theorem dX12_ends_10 : decode cX12_ends 10 = .ok (.aload_n 0, 1) := by decide +kernel
theorem dX12_ends_11 : decode cX12_ends 11 = .ok (.getfield 64, 3) := by decide +kernel
theorem dX12_ends_14 : decode cX12_ends 14 = .ok (.aload_n 0, 1) := by decide +kernel
theorem dX12_ends_15 : decode cX12_ends 15 = .ok (.getfield 302, 3) := by decide +kernel
theorem dX12_ends_18 : decode cX12_ends 18 = .ok (.iaload, 1) := by decide +kernel
theorem dX12_ends_19 : decode cX12_ends 19 = .ok (.istore_n 1, 1) := by decide +kernel
theorem dX12_ends_20 : decode cX12_ends 20 = .ok (.aload_n 0, 1) := by decide +kernel
theorem dX12_ends_21 : decode cX12_ends 21 = .ok (.getfield 61, 3) := by decide +kernel
theorem dX12_ends_24 : decode cX12_ends 24 = .ok (.aload_n 0, 1) := by decide +kernel
theorem dX12_ends_25 : decode cX12_ends 25 = .ok (.getfield 302, 3) := by decide +kernel
theorem dX12_ends_28 : decode cX12_ends 28 = .ok (.iaload, 1) := by decide +kernel
theorem dX12_ends_29 : decode cX12_ends 29 = .ok (.tableswitch 102 0 3 #[31, 43, 89, 67], 31) := by decide +kernel
theorem dX12_ends_60 : decode cX12_ends 60 = .ok (.aload_n 0, 1) := by decide +kernel
theorem dX12_ends_61 : decode cX12_ends 61 = .ok (.bipush 18, 2) := by decide +kernel
theorem dX12_ends_63 : decode cX12_ends 63 = .ok (.iconst 0, 1) := by decide +kernel
theorem dX12_ends_64 : decode cX12_ends 64 = .ok (.iconst 0, 1) := by decide +kernel
theorem dX12_ends_65 : decode cX12_ends 65 = .ok (.iconst 0, 1) := by decide +kernel
theorem dX12_ends_66 : decode cX12_ends 66 = .ok (.invokevirtual 327, 3) := by decide +kernel
theorem dX12_ends_69 : decode cX12_ends 69 = .ok (.goto 72, 3) := by decide +kernel
theorem dX12_ends_72 : decode cX12_ends 72 = .ok (.aload_n 0, 1) := by decide +kernel
theorem dX12_ends_73 : decode cX12_ends 73 = .ok (.bipush 13, 2) := by decide +kernel
theorem dX12_ends_75 : decode cX12_ends 75 = .ok (.iload_n 1, 1) := by decide +kernel
theorem dX12_ends_76 : decode cX12_ends 76 = .ok (.iconst 1, 1) := by decide +kernel
theorem dX12_ends_77 : decode cX12_ends 77 = .ok (.iadd, 1) := by decide +kernel
theorem dX12_ends_78 : decode cX12_ends 78 = .ok (.iconst 0, 1) := by decide +kernel
theorem dX12_ends_79 : decode cX12_ends 79 = .ok (.iconst 0, 1) := by decide +kernel
theorem dX12_ends_80 : decode cX12_ends 80 = .ok (.invokevirtual 327, 3) := by decide +kernel
theorem dX12_ends_83 : decode cX12_ends 83 = .ok (.aload_n 0, 1) := by decide +kernel
theorem dX12_ends_84 : decode cX12_ends 84 = .ok (.getfield 58, 3) := by decide +kernel
theorem dX12_ends_87 : decode cX12_ends 87 = .ok (.iload_n 1, 1) := by decide +kernel
theorem dX12_ends_88 : decode cX12_ends 88 = .ok (.aload_n 0, 1) := by decide +kernel
theorem dX12_ends_89 : decode cX12_ends 89 = .ok (.getfield 289, 3) := by decide +kernel
theorem dX12_ends_92 : decode cX12_ends 92 = .ok (.iastore, 1) := by decide +kernel
theorem dX12_ends_93 : decode cX12_ends 93 = .ok (.goto 48, 3) := by decide +kernel
theorem dX12_ends_96 : decode cX12_ends 96 = .ok (.aload_n 0, 1) := by decide +kernel
theorem dX12_ends_97 : decode cX12_ends 97 = .ok (.bipush 17, 2) := by decide +kernel
theorem dX12_ends_99 : decode cX12_ends 99 = .ok (.iconst 0, 1) := by decide +kernel
theorem dX12_ends_100 : decode cX12_ends 100 = .ok (.iconst 0, 1) := by decide +kernel
theorem dX12_ends_101 : decode cX12_ends 101 = .ok (.iconst 0, 1) := by decide +kernel
theorem dX12_ends_102 : decode cX12_ends 102 = .ok (.invokevirtual 327, 3) := by decide +kernel
theorem dX12_ends_105 : decode cX12_ends 105 = .ok (.aload_n 0, 1) := by decide +kernel
theorem dX12_ends_106 : decode cX12_ends 106 = .ok (.getfield 58, 3) := by decide +kernel
theorem dX12_ends_109 : decode cX12_ends 109 = .ok (.iload_n 1, 1) := by decide +kernel
theorem dX12_ends_110 : decode cX12_ends 110 = .ok (.aload_n 0, 1) := by decide +kernel
theorem dX12_ends_111 : decode cX12_ends 111 = .ok (.getfield 289, 3) := by decide +kernel
theorem dX12_ends_114 : decode cX12_ends 114 = .ok (.iastore, 1) := by decide +kernel
theorem dX12_ends_115 : decode cX12_ends 115 = .ok (.goto 26, 3) := by decide +kernel
theorem dX12_ends_118 : decode cX12_ends 118 = .ok (.aload_n 0, 1) := by decide +kernel
theorem dX12_ends_119 : decode cX12_ends 119 = .ok (.getfield 58, 3) := by decide +kernel
theorem dX12_ends_122 : decode cX12_ends 122 = .ok (.iload_n 1, 1) := by decide +kernel
theorem dX12_ends_123 : decode cX12_ends 123 = .ok (.aload_n 0, 1) := by decide +kernel
theorem dX12_ends_124 : decode cX12_ends 124 = .ok (.getfield 289, 3) := by decide +kernel
theorem dX12_ends_127 : decode cX12_ends 127 = .ok (.iastore, 1) := by decide +kernel
theorem dX12_ends_128 : decode cX12_ends 128 = .ok (.goto 13, 3) := by decide +kernel
theorem dX12_ends_131 : decode cX12_ends 131 = .ok (.aload_n 0, 1) := by decide +kernel
theorem dX12_ends_132 : decode cX12_ends 132 = .ok (.getfield 52, 3) := by decide +kernel
theorem dX12_ends_135 : decode cX12_ends 135 = .ok (.iload_n 1, 1) := by decide +kernel
theorem dX12_ends_136 : decode cX12_ends 136 = .ok (.aload_n 0, 1) := by decide +kernel
theorem dX12_ends_137 : decode cX12_ends 137 = .ok (.getfield 289, 3) := by decide +kernel
theorem dX12_ends_140 : decode cX12_ends 140 = .ok (.iastore, 1) := by decide +kernel
theorem dX12_ends_141 : decode cX12_ends 141 = .ok (.return_, 1) := by decide +kernel
abbrev rm_X12_ends : Room := { frames := 1, cells := 0, slots := 0, locals := 24 }
set_option maxRecDepth 100000 in
set_option maxHeartbeats 4000000 in
theorem ct_X12_ends {w : Wd} {l : Launch} {σ : St} {σ' : St} (h : m_X12_ends σ = some σ') : Ct w l yX12_ends (Cond.code yX12_ends cX12_ends 2 none :: TB) rm_X12_ends [rv w 170] σ none True σ' := by
  refine Ct.of2 [some (rv w 170), none] 1 rfl pn_RX12 (Nat.le_of_ble_eq_true rfl) ?_
  intro p e s m args below meth c C hr hlk
  unfold m_X12_ends at h
  refine g_aload_n C dX12_ends_0 rfl ?_
  refine g_dup C dX12_ends_1 rfl ?_
  refine g_getI (j := 27) C dX12_ends_2 rfl (Nat.le_of_ble_eq_true rfl) (Nat.le_of_ble_eq_true rfl) fl_12_302 rfl rfl (fun i1 => ?_)
  refine g_iconst C dX12_ends_5 ?_
  refine g_isub C dX12_ends_6 ?_
  obtain ⟨σ2, qσ2, h⟩ := bnd h
  refine g_putI (j := 27) C dX12_ends_7 rfl (Nat.le_of_ble_eq_true rfl) (Nat.le_of_ble_eq_true rfl) fl_12_302 rfl rfl rfl rfl qσ2 (iwr _) ?_
  refine g_aload_n C dX12_ends_10 rfl ?_
  refine g_getR (j := 29) C dX12_ends_11 rfl (Nat.le_of_ble_eq_true rfl) (Nat.le_of_ble_eq_true rfl) fl_12_64 rfl rfl (r := 186) rfl ?_
  refine g_aload_n C dX12_ends_14 rfl ?_
  refine g_getI (j := 27) C dX12_ends_15 rfl (Nat.le_of_ble_eq_true rfl) (Nat.le_of_ble_eq_true rfl) fl_12_302 rfl rfl (fun i3 => ?_)
  obtain ⟨x4, qx4, h⟩ := bnd h
  refine g_iald C dX12_ends_18 rfl rfl qx4 i3 (fun ix4 => ?_)
  refine g_istore_n (L1 := [some (rv w 170), some (iv x4)]) C dX12_ends_19 rfl (Nat.le_of_ble_eq_true rfl) rfl ?_
  refine g_aload_n C dX12_ends_20 rfl ?_
  refine g_getR (j := 28) C dX12_ends_21 rfl (Nat.le_of_ble_eq_true rfl) (Nat.le_of_ble_eq_true rfl) fl_12_61 rfl rfl (r := 185) rfl ?_
  refine g_aload_n C dX12_ends_24 rfl ?_
  refine g_getI (j := 27) C dX12_ends_25 rfl (Nat.le_of_ble_eq_true rfl) (Nat.le_of_ble_eq_true rfl) fl_12_302 rfl rfl (fun i5 => ?_)
  obtain ⟨x6, qx6, h⟩ := bnd h
  refine g_iald C dX12_ends_28 rfl rfl qx6 i5 (fun ix6 => ?_)
  by_cases c7 : x6 = 0
  · have h := ifT c7 h
    refine g_tabI C dX12_ends_29 ix6 (by rw [c7]; decide) (by rw [c7]; decide) (by rw [c7] <;> rfl) rfl (tgt := 60) ?_
    refine g_aload_n C dX12_ends_60 rfl ?_
    refine g_bipush C dX12_ends_61 rfl ?_
    refine g_iconst C dX12_ends_63 ?_
    refine g_iconst C dX12_ends_64 ?_
    refine g_iconst C dX12_ends_65 ?_
    obtain ⟨σ8, qσ8, h⟩ := bnd h
    refine g_callV0 (As := [iv 18, iv 0, iv 0, iv 0]) C dX12_ends_66 mi_X12_emit ml_12_327 (ct_X12_emit (by decide) (by decide) (by decide) (by decide) qσ8) rfl rfl ⟨rfl, rfl⟩ ⟨Nat.le_of_ble_eq_true rfl, Nat.le_of_ble_eq_true rfl⟩ ⟨Nat.zero_le _, Nat.zero_le _⟩ rfl (Nat.le_of_ble_eq_true rfl) (fun _ => ?_)
    refine g_goto C dX12_ends_69 rfl (tgt := 141) ?_
    exact g_vretP C dX12_ends_141 hr hlk h
  have h := ifF c7 h
  by_cases c9 : x6 = 1
  · have h := ifT c9 h
    refine g_tabI C dX12_ends_29 ix6 (by rw [c9]; decide) (by rw [c9]; decide) (by rw [c9] <;> rfl) rfl (tgt := 72) ?_
    refine g_aload_n C dX12_ends_72 rfl ?_
    refine g_bipush C dX12_ends_73 rfl ?_
    refine g_iload_n C dX12_ends_75 rfl ?_
    refine g_iconst C dX12_ends_76 ?_
    refine g_iadd C dX12_ends_77 ?_
    refine g_iconst C dX12_ends_78 ?_
    refine g_iconst C dX12_ends_79 ?_
    obtain ⟨σ10, qσ10, h⟩ := bnd h
    refine g_callV0 (As := [iv 13, iv (wr (x4 + 1)), iv 0, iv 0]) C dX12_ends_80 mi_X12_emit ml_12_327 (ct_X12_emit (by decide) (iwr _) (by decide) (by decide) qσ10) rfl rfl ⟨rfl, rfl⟩ ⟨Nat.le_of_ble_eq_true rfl, Nat.le_of_ble_eq_true rfl⟩ ⟨Nat.zero_le _, Nat.zero_le _⟩ rfl (Nat.le_of_ble_eq_true rfl) (fun _ => ?_)
    refine g_aload_n C dX12_ends_83 rfl ?_
    refine g_getR (j := 26) C dX12_ends_84 rfl (Nat.le_of_ble_eq_true rfl) (Nat.le_of_ble_eq_true rfl) fl_12_58 rfl rfl (r := 184) rfl ?_
    refine g_iload_n C dX12_ends_87 rfl ?_
    refine g_aload_n C dX12_ends_88 rfl ?_
    refine g_getI (j := 22) C dX12_ends_89 rfl (Nat.le_of_ble_eq_true rfl) (Nat.le_of_ble_eq_true rfl) fl_12_289 rfl rfl (fun i11 => ?_)
    obtain ⟨σ12, qσ12, h⟩ := bnd h
    refine g_iast C dX12_ends_92 rfl rfl qσ12 ix4 i11 ?_
    refine g_goto C dX12_ends_93 rfl (tgt := 141) ?_
    exact g_vretP C dX12_ends_141 hr hlk h
  have h := ifF c9 h
  by_cases c13 : x6 = 2
  · have h := ifT c13 h
    refine g_tabI C dX12_ends_29 ix6 (by rw [c13]; decide) (by rw [c13]; decide) (by rw [c13] <;> rfl) rfl (tgt := 118) ?_
    refine g_aload_n C dX12_ends_118 rfl ?_
    refine g_getR (j := 26) C dX12_ends_119 rfl (Nat.le_of_ble_eq_true rfl) (Nat.le_of_ble_eq_true rfl) fl_12_58 rfl rfl (r := 184) rfl ?_
    refine g_iload_n C dX12_ends_122 rfl ?_
    refine g_aload_n C dX12_ends_123 rfl ?_
    refine g_getI (j := 22) C dX12_ends_124 rfl (Nat.le_of_ble_eq_true rfl) (Nat.le_of_ble_eq_true rfl) fl_12_289 rfl rfl (fun i14 => ?_)
    obtain ⟨σ15, qσ15, h⟩ := bnd h
    refine g_iast C dX12_ends_127 rfl rfl qσ15 ix4 i14 ?_
    refine g_goto C dX12_ends_128 rfl (tgt := 141) ?_
    exact g_vretP C dX12_ends_141 hr hlk h
  have h := ifF c13 h
  by_cases c16 : x6 = 3
  · have h := ifT c16 h
    refine g_tabI C dX12_ends_29 ix6 (by rw [c16]; decide) (by rw [c16]; decide) (by rw [c16] <;> rfl) rfl (tgt := 96) ?_
    refine g_aload_n C dX12_ends_96 rfl ?_
    refine g_bipush C dX12_ends_97 rfl ?_
    refine g_iconst C dX12_ends_99 ?_
    refine g_iconst C dX12_ends_100 ?_
    refine g_iconst C dX12_ends_101 ?_
    obtain ⟨σ17, qσ17, h⟩ := bnd h
    refine g_callV0 (As := [iv 17, iv 0, iv 0, iv 0]) C dX12_ends_102 mi_X12_emit ml_12_327 (ct_X12_emit (by decide) (by decide) (by decide) (by decide) qσ17) rfl rfl ⟨rfl, rfl⟩ ⟨Nat.le_of_ble_eq_true rfl, Nat.le_of_ble_eq_true rfl⟩ ⟨Nat.zero_le _, Nat.zero_le _⟩ rfl (Nat.le_of_ble_eq_true rfl) (fun _ => ?_)
    refine g_aload_n C dX12_ends_105 rfl ?_
    refine g_getR (j := 26) C dX12_ends_106 rfl (Nat.le_of_ble_eq_true rfl) (Nat.le_of_ble_eq_true rfl) fl_12_58 rfl rfl (r := 184) rfl ?_
    refine g_iload_n C dX12_ends_109 rfl ?_
    refine g_aload_n C dX12_ends_110 rfl ?_
    refine g_getI (j := 22) C dX12_ends_111 rfl (Nat.le_of_ble_eq_true rfl) (Nat.le_of_ble_eq_true rfl) fl_12_289 rfl rfl (fun i18 => ?_)
    obtain ⟨σ19, qσ19, h⟩ := bnd h
    refine g_iast C dX12_ends_114 rfl rfl qσ19 ix4 i18 ?_
    refine g_goto C dX12_ends_115 rfl (tgt := 141) ?_
    exact g_vretP C dX12_ends_141 hr hlk h
  have h := ifF c16 h
  refine g_tabO C dX12_ends_29 ix6 (by omega) rfl (tgt := 131) ?_
  refine g_aload_n C dX12_ends_131 rfl ?_
  refine g_getR (j := 24) C dX12_ends_132 rfl (Nat.le_of_ble_eq_true rfl) (Nat.le_of_ble_eq_true rfl) fl_12_52 rfl rfl (r := 182) rfl ?_
  refine g_iload_n C dX12_ends_135 rfl ?_
  refine g_aload_n C dX12_ends_136 rfl ?_
  refine g_getI (j := 22) C dX12_ends_137 rfl (Nat.le_of_ble_eq_true rfl) (Nat.le_of_ble_eq_true rfl) fl_12_289 rfl rfl (fun i20 => ?_)
  obtain ⟨σ21, qσ21, h⟩ := bnd h
  refine g_iast C dX12_ends_140 rfl rfl qσ21 ix4 i20 ?_
  exact g_vretP C dX12_ends_141 hr hlk h
theorem dX12_turnsElse_0 : decode cX12_turnsElse 0 = .ok (.aload_n 0, 1) := by decide +kernel
theorem dX12_turnsElse_1 : decode cX12_turnsElse 1 = .ok (.getfield 302, 3) := by decide +kernel
theorem dX12_turnsElse_4 : decode cX12_turnsElse 4 = .ok (.iconst 1, 1) := by decide +kernel
theorem dX12_turnsElse_5 : decode cX12_turnsElse 5 = .ok (.isub, 1) := by decide +kernel
theorem dX12_turnsElse_6 : decode cX12_turnsElse 6 = .ok (.istore_n 1, 1) := by decide +kernel
theorem dX12_turnsElse_7 : decode cX12_turnsElse 7 = .ok (.aload_n 0, 1) := by decide +kernel
theorem dX12_turnsElse_8 : decode cX12_turnsElse 8 = .ok (.getfield 61, 3) := by decide +kernel
theorem dX12_turnsElse_11 : decode cX12_turnsElse 11 = .ok (.iload_n 1, 1) := by decide +kernel
theorem dX12_turnsElse_12 : decode cX12_turnsElse 12 = .ok (.iaload, 1) := by decide +kernel
theorem dX12_turnsElse_13 : decode cX12_turnsElse 13 = .ok (.iconst 3, 1) := by decide +kernel
theorem dX12_turnsElse_14 : decode cX12_turnsElse 14 = .ok (.if_icmp .ne 12, 3) := by decide +kernel
theorem dX12_turnsElse_17 : decode cX12_turnsElse 17 = .ok (.aload_n 0, 1) := by decide +kernel
theorem dX12_turnsElse_18 : decode cX12_turnsElse 18 = .ok (.bipush 17, 2) := by decide +kernel
theorem dX12_turnsElse_20 : decode cX12_turnsElse 20 = .ok (.iconst 0, 1) := by decide +kernel
theorem dX12_turnsElse_21 : decode cX12_turnsElse 21 = .ok (.iconst 0, 1) := by decide +kernel
theorem dX12_turnsElse_22 : decode cX12_turnsElse 22 = .ok (.iconst 0, 1) := by decide +kernel
theorem dX12_turnsElse_23 : decode cX12_turnsElse 23 = .ok (.invokevirtual 327, 3) := by decide +kernel
theorem dX12_turnsElse_26 : decode cX12_turnsElse 26 = .ok (.aload_n 0, 1) := by decide +kernel
theorem dX12_turnsElse_27 : decode cX12_turnsElse 27 = .ok (.bipush 15, 2) := by decide +kernel
theorem dX12_turnsElse_29 : decode cX12_turnsElse 29 = .ok (.iconst 0, 1) := by decide +kernel
theorem dX12_turnsElse_30 : decode cX12_turnsElse 30 = .ok (.iconst 0, 1) := by decide +kernel
theorem dX12_turnsElse_31 : decode cX12_turnsElse 31 = .ok (.iconst 0, 1) := by decide +kernel
theorem dX12_turnsElse_32 : decode cX12_turnsElse 32 = .ok (.invokevirtual 327, 3) := by decide +kernel
theorem dX12_turnsElse_35 : decode cX12_turnsElse 35 = .ok (.aload_n 0, 1) := by decide +kernel
theorem dX12_turnsElse_36 : decode cX12_turnsElse 36 = .ok (.getfield 58, 3) := by decide +kernel
theorem dX12_turnsElse_39 : decode cX12_turnsElse 39 = .ok (.aload_n 0, 1) := by decide +kernel
theorem dX12_turnsElse_40 : decode cX12_turnsElse 40 = .ok (.getfield 64, 3) := by decide +kernel
theorem dX12_turnsElse_43 : decode cX12_turnsElse 43 = .ok (.iload_n 1, 1) := by decide +kernel
theorem dX12_turnsElse_44 : decode cX12_turnsElse 44 = .ok (.iaload, 1) := by decide +kernel
theorem dX12_turnsElse_45 : decode cX12_turnsElse 45 = .ok (.aload_n 0, 1) := by decide +kernel
theorem dX12_turnsElse_46 : decode cX12_turnsElse 46 = .ok (.getfield 289, 3) := by decide +kernel
theorem dX12_turnsElse_49 : decode cX12_turnsElse 49 = .ok (.iastore, 1) := by decide +kernel
theorem dX12_turnsElse_50 : decode cX12_turnsElse 50 = .ok (.aload_n 0, 1) := by decide +kernel
theorem dX12_turnsElse_51 : decode cX12_turnsElse 51 = .ok (.getfield 61, 3) := by decide +kernel
theorem dX12_turnsElse_54 : decode cX12_turnsElse 54 = .ok (.iload_n 1, 1) := by decide +kernel
theorem dX12_turnsElse_55 : decode cX12_turnsElse 55 = .ok (.iconst 4, 1) := by decide +kernel
theorem dX12_turnsElse_56 : decode cX12_turnsElse 56 = .ok (.iastore, 1) := by decide +kernel
theorem dX12_turnsElse_57 : decode cX12_turnsElse 57 = .ok (.aload_n 0, 1) := by decide +kernel
theorem dX12_turnsElse_58 : decode cX12_turnsElse 58 = .ok (.getfield 64, 3) := by decide +kernel
theorem dX12_turnsElse_61 : decode cX12_turnsElse 61 = .ok (.iload_n 1, 1) := by decide +kernel
theorem dX12_turnsElse_62 : decode cX12_turnsElse 62 = .ok (.aload_n 0, 1) := by decide +kernel
theorem dX12_turnsElse_63 : decode cX12_turnsElse 63 = .ok (.getfield 289, 3) := by decide +kernel
theorem dX12_turnsElse_66 : decode cX12_turnsElse 66 = .ok (.iconst 1, 1) := by decide +kernel
theorem dX12_turnsElse_67 : decode cX12_turnsElse 67 = .ok (.isub, 1) := by decide +kernel
theorem dX12_turnsElse_68 : decode cX12_turnsElse 68 = .ok (.iastore, 1) := by decide +kernel
theorem dX12_turnsElse_69 : decode cX12_turnsElse 69 = .ok (.return_, 1) := by decide +kernel
abbrev rm_X12_turnsElse : Room := { frames := 1, cells := 0, slots := 0, locals := 24 }
set_option maxRecDepth 100000 in
set_option maxHeartbeats 4000000 in
theorem ct_X12_turnsElse {w : Wd} {l : Launch} {σ : St} {σ' : St} (h : m_X12_turnsElse σ = some σ') : Ct w l yX12_turnsElse (Cond.code yX12_turnsElse cX12_turnsElse 2 none :: TB) rm_X12_turnsElse [rv w 170] σ none True σ' := by
  refine Ct.of2 [some (rv w 170), none] 1 rfl pn_RX12 (Nat.le_of_ble_eq_true rfl) ?_
  intro p e s m args below meth c C hr hlk
  unfold m_X12_turnsElse at h
  refine g_aload_n C dX12_turnsElse_0 rfl ?_
  refine g_getI (j := 27) C dX12_turnsElse_1 rfl (Nat.le_of_ble_eq_true rfl) (Nat.le_of_ble_eq_true rfl) fl_12_302 rfl rfl (fun i1 => ?_)
  refine g_iconst C dX12_turnsElse_4 ?_
  refine g_isub C dX12_turnsElse_5 ?_
  obtain ⟨x2, qx2, h⟩ := bnd h
  have qx2 := Option.some.inj qx2
  have ix2 : InI x2 := by rw [← qx2]; exact (iwr _)
  refine g_E qx2 ?_
  refine g_istore_n (L1 := [some (rv w 170), some (iv x2)]) C dX12_turnsElse_6 rfl (Nat.le_of_ble_eq_true rfl) rfl ?_
  refine g_aload_n C dX12_turnsElse_7 rfl ?_
  refine g_getR (j := 28) C dX12_turnsElse_8 rfl (Nat.le_of_ble_eq_true rfl) (Nat.le_of_ble_eq_true rfl) fl_12_61 rfl rfl (r := 185) rfl ?_
  refine g_iload_n C dX12_turnsElse_11 rfl ?_
  obtain ⟨x3, qx3, h⟩ := bnd h
  refine g_iald C dX12_turnsElse_12 rfl rfl qx3 ix2 (fun ix3 => ?_)
  refine g_iconst C dX12_turnsElse_13 ?_
  have hJ26_14 : ∀ (σ6 : St) , m_X12_turnsElse_J26 x2 σ6 = some σ' → GM w p l e rm_X12_turnsElse s m args below meth c none True σ' 2 26 [some (rv w 170), some (iv x2)] [] σ6 := by
    intro σ6 h
    unfold m_X12_turnsElse_J26 at h
    refine g_aload_n C dX12_turnsElse_26 rfl ?_
    refine g_bipush C dX12_turnsElse_27 rfl ?_
    refine g_iconst C dX12_turnsElse_29 ?_
    refine g_iconst C dX12_turnsElse_30 ?_
    refine g_iconst C dX12_turnsElse_31 ?_
    obtain ⟨σ7, qσ7, h⟩ := bnd h
    refine g_callV0 (As := [iv 15, iv 0, iv 0, iv 0]) C dX12_turnsElse_32 mi_X12_emit ml_12_327 (ct_X12_emit (by decide) (by decide) (by decide) (by decide) qσ7) rfl rfl ⟨rfl, rfl⟩ ⟨Nat.le_of_ble_eq_true rfl, Nat.le_of_ble_eq_true rfl⟩ ⟨Nat.zero_le _, Nat.zero_le _⟩ rfl (Nat.le_of_ble_eq_true rfl) (fun _ => ?_)
    refine g_aload_n C dX12_turnsElse_35 rfl ?_
    refine g_getR (j := 26) C dX12_turnsElse_36 rfl (Nat.le_of_ble_eq_true rfl) (Nat.le_of_ble_eq_true rfl) fl_12_58 rfl rfl (r := 184) rfl ?_
    refine g_aload_n C dX12_turnsElse_39 rfl ?_
    refine g_getR (j := 29) C dX12_turnsElse_40 rfl (Nat.le_of_ble_eq_true rfl) (Nat.le_of_ble_eq_true rfl) fl_12_64 rfl rfl (r := 186) rfl ?_
    refine g_iload_n C dX12_turnsElse_43 rfl ?_
    obtain ⟨x8, qx8, h⟩ := bnd h
    refine g_iald C dX12_turnsElse_44 rfl rfl qx8 ix2 (fun ix8 => ?_)
    refine g_aload_n C dX12_turnsElse_45 rfl ?_
    refine g_getI (j := 22) C dX12_turnsElse_46 rfl (Nat.le_of_ble_eq_true rfl) (Nat.le_of_ble_eq_true rfl) fl_12_289 rfl rfl (fun i9 => ?_)
    obtain ⟨σ10, qσ10, h⟩ := bnd h
    refine g_iast C dX12_turnsElse_49 rfl rfl qσ10 ix8 i9 ?_
    refine g_aload_n C dX12_turnsElse_50 rfl ?_
    refine g_getR (j := 28) C dX12_turnsElse_51 rfl (Nat.le_of_ble_eq_true rfl) (Nat.le_of_ble_eq_true rfl) fl_12_61 rfl rfl (r := 185) rfl ?_
    refine g_iload_n C dX12_turnsElse_54 rfl ?_
    refine g_iconst C dX12_turnsElse_55 ?_
    obtain ⟨σ11, qσ11, h⟩ := bnd h
    refine g_iast C dX12_turnsElse_56 rfl rfl qσ11 ix2 (by decide) ?_
    refine g_aload_n C dX12_turnsElse_57 rfl ?_
    refine g_getR (j := 29) C dX12_turnsElse_58 rfl (Nat.le_of_ble_eq_true rfl) (Nat.le_of_ble_eq_true rfl) fl_12_64 rfl rfl (r := 186) rfl ?_
    refine g_iload_n C dX12_turnsElse_61 rfl ?_
    refine g_aload_n C dX12_turnsElse_62 rfl ?_
    refine g_getI (j := 22) C dX12_turnsElse_63 rfl (Nat.le_of_ble_eq_true rfl) (Nat.le_of_ble_eq_true rfl) fl_12_289 rfl rfl (fun i12 => ?_)
    refine g_iconst C dX12_turnsElse_66 ?_
    refine g_isub C dX12_turnsElse_67 ?_
    obtain ⟨σ13, qσ13, h⟩ := bnd h
    refine g_iast C dX12_turnsElse_68 rfl rfl qσ13 ix2 (iwr _) ?_
    exact g_vretP C dX12_turnsElse_69 hr hlk h
  refine g_icmp_ne C dX12_turnsElse_14 ix3 (by decide) rfl (tgt := 26) (fun c4 => ?_) (fun c4 => ?_)
  · have h := ifF c4 h
    exact hJ26_14 σ h
  · have h := ifT c4 h
    refine g_aload_n C dX12_turnsElse_17 rfl ?_
    refine g_bipush C dX12_turnsElse_18 rfl ?_
    refine g_iconst C dX12_turnsElse_20 ?_
    refine g_iconst C dX12_turnsElse_21 ?_
    refine g_iconst C dX12_turnsElse_22 ?_
    obtain ⟨σ5, qσ5, h⟩ := bnd h
    refine g_callV0 (As := [iv 17, iv 0, iv 0, iv 0]) C dX12_turnsElse_23 mi_X12_emit ml_12_327 (ct_X12_emit (by decide) (by decide) (by decide) (by decide) qσ5) rfl rfl ⟨rfl, rfl⟩ ⟨Nat.le_of_ble_eq_true rfl, Nat.le_of_ble_eq_true rfl⟩ ⟨Nat.zero_le _, Nat.zero_le _⟩ rfl (Nat.le_of_ble_eq_true rfl) (fun _ => ?_)
    exact hJ26_14 σ5 h
theorem dX12_number_0 : decode cX12_number 0 = .ok (.aload_n 0, 1) := by decide +kernel
theorem dX12_number_1 : decode cX12_number 1 = .ok (.getfield 259, 3) := by decide +kernel
theorem dX12_number_4 : decode cX12_number 4 = .ok (.istore_n 2, 1) := by decide +kernel
theorem dX12_number_5 : decode cX12_number 5 = .ok (.aload_n 0, 1) := by decide +kernel
theorem dX12_number_6 : decode cX12_number 6 = .ok (.getfield 27, 3) := by decide +kernel
theorem dX12_number_9 : decode cX12_number 9 = .ok (.aload_n 0, 1) := by decide +kernel
theorem dX12_number_10 : decode cX12_number 10 = .ok (.getfield 259, 3) := by decide +kernel
theorem dX12_number_13 : decode cX12_number 13 = .ok (.iaload, 1) := by decide +kernel
theorem dX12_number_14 : decode cX12_number 14 = .ok (.istore_n 3, 1) := by decide +kernel
theorem dX12_number_15 : decode cX12_number 15 = .ok (.aload_n 0, 1) := by decide +kernel
theorem dX12_number_16 : decode cX12_number 16 = .ok (.iconst 2, 1) := by decide +kernel
theorem dX12_number_17 : decode cX12_number 17 = .ok (.invokevirtual 295, 3) := by decide +kernel
theorem dX12_number_20 : decode cX12_number 20 = .ok (.aload_n 0, 1) := by decide +kernel
theorem dX12_number_21 : decode cX12_number 21 = .ok (.getfield 256, 3) := by decide +kernel
theorem dX12_number_24 : decode cX12_number 24 = .ok (.ifCond .ne 14, 3) := by decide +kernel
theorem dX12_number_27 : decode cX12_number 27 = .ok (.iload_n 3, 1) := by decide +kernel
theorem dX12_number_28 : decode cX12_number 28 = .ok (.iload_n 1, 1) := by decide +kernel
theorem dX12_number_29 : decode cX12_number 29 = .ok (.if_icmp .le 9, 3) := by decide +kernel
theorem dX12_number_32 : decode cX12_number 32 = .ok (.aload_n 0, 1) := by decide +kernel
theorem dX12_number_33 : decode cX12_number 33 = .ok (.iconst 5, 1) := by decide +kernel
theorem dX12_number_34 : decode cX12_number 34 = .ok (.iload_n 2, 1) := by decide +kernel
theorem dX12_number_35 : decode cX12_number 35 = .ok (.invokevirtual 298, 3) := by decide +kernel
theorem dX12_number_38 : decode cX12_number 38 = .ok (.iload_n 3, 1) := by decide +kernel
theorem dX12_number_39 : decode cX12_number 39 = .ok (.ireturn, 1) := by decide +kernel
abbrev rm_X12_number : Room := { frames := 3, cells := 0, slots := 0, locals := 62 }
set_option maxRecDepth 100000 in
set_option maxHeartbeats 4000000 in
theorem ct_X12_number {w : Wd} {l : Launch} {a1 : Int} {σ : St} {y : Int} {σ' : St} (ia1 : InI a1) (h : m_X12_number a1 σ = some (y, σ')) : Ct w l yX12_number (Cond.code yX12_number cX12_number 4 (some .int) :: TB) rm_X12_number [rv w 170, iv a1] σ (some (iv y)) (InI y) σ' := by
  refine Ct.of2 [some (rv w 170), some (iv a1), none, none] 2 rfl pn_RX12 (Nat.le_of_ble_eq_true rfl) ?_
  intro p e s m args below meth c C hr hlk
  unfold m_X12_number at h
  refine g_aload_n C dX12_number_0 rfl ?_
  refine g_getI (j := 11) C dX12_number_1 rfl (Nat.le_of_ble_eq_true rfl) (Nat.le_of_ble_eq_true rfl) fl_12_259 rfl rfl (fun i1 => ?_)
  refine g_istore_n (L1 := [some (rv w 170), some (iv a1), some (iv (σ 170 11)), none]) C dX12_number_4 rfl (Nat.le_of_ble_eq_true rfl) rfl ?_
  refine g_aload_n C dX12_number_5 rfl ?_
  refine g_getR (j := 7) C dX12_number_6 rfl (Nat.le_of_ble_eq_true rfl) (Nat.le_of_ble_eq_true rfl) fl_12_27 rfl rfl (r := 175) rfl ?_
  refine g_aload_n C dX12_number_9 rfl ?_
  refine g_getI (j := 11) C dX12_number_10 rfl (Nat.le_of_ble_eq_true rfl) (Nat.le_of_ble_eq_true rfl) fl_12_259 rfl rfl (fun i2 => ?_)
  obtain ⟨x3, qx3, h⟩ := bnd h
  refine g_iald C dX12_number_13 rfl rfl qx3 i2 (fun ix3 => ?_)
  refine g_istore_n (L1 := [some (rv w 170), some (iv a1), some (iv (σ 170 11)), some (iv x3)]) C dX12_number_14 rfl (Nat.le_of_ble_eq_true rfl) rfl ?_
  refine g_aload_n C dX12_number_15 rfl ?_
  refine g_iconst C dX12_number_16 ?_
  obtain ⟨σ4, qσ4, h⟩ := bnd h
  refine g_callV0 (As := [iv 2]) C dX12_number_17 mi_X12_must ml_12_295 (ct_X12_must (by decide) qσ4) rfl rfl ⟨rfl, rfl⟩ ⟨Nat.le_of_ble_eq_true rfl, Nat.le_of_ble_eq_true rfl⟩ ⟨Nat.zero_le _, Nat.zero_le _⟩ rfl (Nat.le_of_ble_eq_true rfl) (fun _ => ?_)
  refine g_aload_n C dX12_number_20 rfl ?_
  refine g_getI (j := 12) C dX12_number_21 rfl (Nat.le_of_ble_eq_true rfl) (Nat.le_of_ble_eq_true rfl) fl_12_256 rfl rfl (fun i5 => ?_)
  refine g_if_ne C dX12_number_24 i5 rfl (tgt := 38) (fun c6 => ?_) (fun c6 => ?_)
  · have h := ifF c6 h
    refine g_iload_n C dX12_number_38 rfl ?_
    exact g_iretP C dX12_number_39 hr hlk h ix3
  · have h := ifT c6 h
    refine g_iload_n C dX12_number_27 rfl ?_
    refine g_iload_n C dX12_number_28 rfl ?_
    refine g_icmp_le C dX12_number_29 ix3 ia1 rfl (tgt := 38) (fun c7 => ?_) (fun c7 => ?_)
    · have h := ifT c7 h
      refine g_iload_n C dX12_number_38 rfl ?_
      exact g_iretP C dX12_number_39 hr hlk h ix3
    · have h := ifF c7 h
      refine g_aload_n C dX12_number_32 rfl ?_
      refine g_iconst C dX12_number_33 ?_
      refine g_iload_n C dX12_number_34 rfl ?_
      obtain ⟨σ8, qσ8, h⟩ := bnd h
      refine g_callV0 (As := [iv 5, iv (σ 170 11)]) C dX12_number_35 mi_X12_wrong ml_12_298 (ct_X12_wrong (by decide) i1 qσ8) rfl rfl ⟨rfl, rfl⟩ ⟨Nat.le_of_ble_eq_true rfl, Nat.le_of_ble_eq_true rfl⟩ ⟨Nat.zero_le _, Nat.zero_le _⟩ rfl (Nat.le_of_ble_eq_true rfl) (fun _ => ?_)
      refine g_iload_n C dX12_number_38 rfl ?_
      exact g_iretP C dX12_number_39 hr hlk h ix3
theorem dX12_opens_0 : decode cX12_opens 0 = .ok (.aload_n 0, 1) := by decide +kernel
theorem dX12_opens_1 : decode cX12_opens 1 = .ok (.getfield 256, 3) := by decide +kernel
theorem dX12_opens_4 : decode cX12_opens 4 = .ok (.ifCond .le 4, 3) := by decide +kernel
theorem dX12_opens_7 : decode cX12_opens 7 = .ok (.return_, 1) := by decide +kernel
theorem dX12_opens_8 : decode cX12_opens 8 = .ok (.aload_n 0, 1) := by decide +kernel
theorem dX12_opens_9 : decode cX12_opens 9 = .ok (.getfield 61, 3) := by decide +kernel
theorem dX12_opens_12 : decode cX12_opens 12 = .ok (.aload_n 0, 1) := by decide +kernel
theorem dX12_opens_13 : decode cX12_opens 13 = .ok (.getfield 302, 3) := by decide +kernel
theorem dX12_opens_16 : decode cX12_opens 16 = .ok (.iload_n 1, 1) := by decide +kernel
theorem dX12_opens_17 : decode cX12_opens 17 = .ok (.iastore, 1) := by decide +kernel
theorem dX12_opens_18 : decode cX12_opens 18 = .ok (.aload_n 0, 1) := by decide +kernel
theorem dX12_opens_19 : decode cX12_opens 19 = .ok (.getfield 64, 3) := by decide +kernel
theorem dX12_opens_22 : decode cX12_opens 22 = .ok (.aload_n 0, 1) := by decide +kernel
theorem dX12_opens_23 : decode cX12_opens 23 = .ok (.getfield 302, 3) := by decide +kernel
theorem dX12_opens_26 : decode cX12_opens 26 = .ok (.aload_n 0, 1) := by decide +kernel
theorem dX12_opens_27 : decode cX12_opens 27 = .ok (.getfield 289, 3) := by decide +kernel
theorem dX12_opens_30 : decode cX12_opens 30 = .ok (.iastore, 1) := by decide +kernel
theorem dX12_opens_31 : decode cX12_opens 31 = .ok (.aload_n 0, 1) := by decide +kernel
theorem dX12_opens_32 : decode cX12_opens 32 = .ok (.dup, 1) := by decide +kernel
theorem dX12_opens_33 : decode cX12_opens 33 = .ok (.getfield 302, 3) := by decide +kernel
theorem dX12_opens_36 : decode cX12_opens 36 = .ok (.iconst 1, 1) := by decide +kernel
theorem dX12_opens_37 : decode cX12_opens 37 = .ok (.iadd, 1) := by decide +kernel
theorem dX12_opens_38 : decode cX12_opens 38 = .ok (.putfield 302, 3) := by decide +kernel
theorem dX12_opens_41 : decode cX12_opens 41 = .ok (.aload_n 0, 1) := by decide +kernel
theorem dX12_opens_42 : decode cX12_opens 42 = .ok (.iload_n 2, 1) := by decide +kernel
theorem dX12_opens_43 : decode cX12_opens 43 = .ok (.iload_n 3, 1) := by decide +kernel
theorem dX12_opens_44 : decode cX12_opens 44 = .ok (.iload 4, 2) := by decide +kernel
theorem dX12_opens_46 : decode cX12_opens 46 = .ok (.iconst 0, 1) := by decide +kernel
theorem dX12_opens_47 : decode cX12_opens 47 = .ok (.invokevirtual 327, 3) := by decide +kernel
theorem dX12_opens_50 : decode cX12_opens 50 = .ok (.return_, 1) := by decide +kernel
abbrev rm_X12_opens : Room := { frames := 1, cells := 0, slots := 0, locals := 24 }
set_option maxRecDepth 100000 in
set_option maxHeartbeats 4000000 in
theorem ct_X12_opens {w : Wd} {l : Launch} {a1 : Int} {a2 : Int} {a3 : Int} {a4 : Int} {σ : St} {σ' : St} (ia1 : InI a1) (ia2 : InI a2) (ia3 : InI a3) (ia4 : InI a4) (h : m_X12_opens a1 a2 a3 a4 σ = some σ') : Ct w l yX12_opens (Cond.code yX12_opens cX12_opens 5 none :: TB) rm_X12_opens [rv w 170, iv a1, iv a2, iv a3, iv a4] σ none True σ' := by
  refine Ct.of2 [some (rv w 170), some (iv a1), some (iv a2), some (iv a3), some (iv a4)] 0 rfl pn_RX12 (Nat.le_of_ble_eq_true rfl) ?_
  intro p e s m args below meth c C hr hlk
  unfold m_X12_opens at h
  refine g_aload_n C dX12_opens_0 rfl ?_
  refine g_getI (j := 12) C dX12_opens_1 rfl (Nat.le_of_ble_eq_true rfl) (Nat.le_of_ble_eq_true rfl) fl_12_256 rfl rfl (fun i1 => ?_)
  refine g_if_le C dX12_opens_4 i1 rfl (tgt := 8) (fun c2 => ?_) (fun c2 => ?_)
  · have h := ifT c2 h
    refine g_aload_n C dX12_opens_8 rfl ?_
    refine g_getR (j := 28) C dX12_opens_9 rfl (Nat.le_of_ble_eq_true rfl) (Nat.le_of_ble_eq_true rfl) fl_12_61 rfl rfl (r := 185) rfl ?_
    refine g_aload_n C dX12_opens_12 rfl ?_
    refine g_getI (j := 27) C dX12_opens_13 rfl (Nat.le_of_ble_eq_true rfl) (Nat.le_of_ble_eq_true rfl) fl_12_302 rfl rfl (fun i3 => ?_)
    refine g_iload_n C dX12_opens_16 rfl ?_
    obtain ⟨σ4, qσ4, h⟩ := bnd h
    refine g_iast C dX12_opens_17 rfl rfl qσ4 i3 ia1 ?_
    refine g_aload_n C dX12_opens_18 rfl ?_
    refine g_getR (j := 29) C dX12_opens_19 rfl (Nat.le_of_ble_eq_true rfl) (Nat.le_of_ble_eq_true rfl) fl_12_64 rfl rfl (r := 186) rfl ?_
    refine g_aload_n C dX12_opens_22 rfl ?_
    refine g_getI (j := 27) C dX12_opens_23 rfl (Nat.le_of_ble_eq_true rfl) (Nat.le_of_ble_eq_true rfl) fl_12_302 rfl rfl (fun i5 => ?_)
    refine g_aload_n C dX12_opens_26 rfl ?_
    refine g_getI (j := 22) C dX12_opens_27 rfl (Nat.le_of_ble_eq_true rfl) (Nat.le_of_ble_eq_true rfl) fl_12_289 rfl rfl (fun i6 => ?_)
    obtain ⟨σ7, qσ7, h⟩ := bnd h
    refine g_iast C dX12_opens_30 rfl rfl qσ7 i5 i6 ?_
    refine g_aload_n C dX12_opens_31 rfl ?_
    refine g_dup C dX12_opens_32 rfl ?_
    refine g_getI (j := 27) C dX12_opens_33 rfl (Nat.le_of_ble_eq_true rfl) (Nat.le_of_ble_eq_true rfl) fl_12_302 rfl rfl (fun i8 => ?_)
    refine g_iconst C dX12_opens_36 ?_
    refine g_iadd C dX12_opens_37 ?_
    obtain ⟨σ9, qσ9, h⟩ := bnd h
    refine g_putI (j := 27) C dX12_opens_38 rfl (Nat.le_of_ble_eq_true rfl) (Nat.le_of_ble_eq_true rfl) fl_12_302 rfl rfl rfl rfl qσ9 (iwr _) ?_
    refine g_aload_n C dX12_opens_41 rfl ?_
    refine g_iload_n C dX12_opens_42 rfl ?_
    refine g_iload_n C dX12_opens_43 rfl ?_
    refine g_iload C dX12_opens_44 rfl ?_
    refine g_iconst C dX12_opens_46 ?_
    obtain ⟨σ10, qσ10, h⟩ := bnd h
    refine g_callV0 (As := [iv a2, iv a3, iv a4, iv 0]) C dX12_opens_47 mi_X12_emit ml_12_327 (ct_X12_emit ia2 ia3 ia4 (by decide) qσ10) rfl rfl ⟨rfl, rfl⟩ ⟨Nat.le_of_ble_eq_true rfl, Nat.le_of_ble_eq_true rfl⟩ ⟨Nat.zero_le _, Nat.zero_le _⟩ rfl (Nat.le_of_ble_eq_true rfl) (fun _ => ?_)
    exact g_vretP C dX12_opens_50 hr hlk h
  · have h := ifF c2 h
    exact g_vretP C dX12_opens_7 hr hlk h
theorem dX12_tellTest_0 : decode cX12_tellTest 0 = .ok (.iconst 0, 1) := by decide +kernel
theorem dX12_tellTest_1 : decode cX12_tellTest 1 = .ok (.istore_n 1, 1) := by decide +kernel
theorem dX12_tellTest_2 : decode cX12_tellTest 2 = .ok (.aload_n 0, 1) := by decide +kernel
theorem dX12_tellTest_3 : decode cX12_tellTest 3 = .ok (.bipush 39, 2) := by decide +kernel
theorem dX12_tellTest_5 : decode cX12_tellTest 5 = .ok (.invokevirtual 274, 3) := by decide +kernel
theorem dX12_tellTest_8 : decode cX12_tellTest 8 = .ok (.ifCond .eq 14, 3) := by decide +kernel
theorem dX12_tellTest_11 : decode cX12_tellTest 11 = .ok (.iconst 1, 1) := by decide +kernel
theorem dX12_tellTest_12 : decode cX12_tellTest 12 = .ok (.iload_n 1, 1) := by decide +kernel
theorem dX12_tellTest_13 : decode cX12_tellTest 13 = .ok (.isub, 1) := by decide +kernel
theorem dX12_tellTest_14 : decode cX12_tellTest 14 = .ok (.istore_n 1, 1) := by decide +kernel
theorem dX12_tellTest_15 : decode cX12_tellTest 15 = .ok (.aload_n 0, 1) := by decide +kernel
theorem dX12_tellTest_16 : decode cX12_tellTest 16 = .ok (.invokevirtual 277, 3) := by decide +kernel
theorem dX12_tellTest_19 : decode cX12_tellTest 19 = .ok (.goto (-17), 3) := by decide +kernel
theorem dX12_tellTest_22 : decode cX12_tellTest 22 = .ok (.aload_n 0, 1) := by decide +kernel
theorem dX12_tellTest_23 : decode cX12_tellTest 23 = .ok (.getfield 20, 3) := by decide +kernel
theorem dX12_tellTest_26 : decode cX12_tellTest 26 = .ok (.aload_n 0, 1) := by decide +kernel
theorem dX12_tellTest_27 : decode cX12_tellTest 27 = .ok (.getfield 259, 3) := by decide +kernel
theorem dX12_tellTest_30 : decode cX12_tellTest 30 = .ok (.iaload, 1) := by decide +kernel
theorem dX12_tellTest_31 : decode cX12_tellTest 31 = .ok (.istore_n 2, 1) := by decide +kernel
theorem dX12_tellTest_32 : decode cX12_tellTest 32 = .ok (.aload_n 0, 1) := by decide +kernel
theorem dX12_tellTest_33 : decode cX12_tellTest 33 = .ok (.bipush 25, 2) := by decide +kernel
theorem dX12_tellTest_35 : decode cX12_tellTest 35 = .ok (.invokevirtual 274, 3) := by decide +kernel
theorem dX12_tellTest_38 : decode cX12_tellTest 38 = .ok (.ifCond .eq 7, 3) := by decide +kernel
theorem dX12_tellTest_41 : decode cX12_tellTest 41 = .ok (.iconst 0, 1) := by decide +kernel
theorem dX12_tellTest_42 : decode cX12_tellTest 42 = .ok (.goto 9, 3) := by decide +kernel
theorem dX12_tellTest_45 : decode cX12_tellTest 45 = .ok (.iload_n 2, 1) := by decide +kernel
theorem dX12_tellTest_46 : decode cX12_tellTest 46 = .ok (.bipush 40, 2) := by decide +kernel
theorem dX12_tellTest_48 : decode cX12_tellTest 48 = .ok (.isub, 1) := by decide +kernel
theorem dX12_tellTest_49 : decode cX12_tellTest 49 = .ok (.iconst 1, 1) := by decide +kernel
theorem dX12_tellTest_50 : decode cX12_tellTest 50 = .ok (.iadd, 1) := by decide +kernel
theorem dX12_tellTest_51 : decode cX12_tellTest 51 = .ok (.istore_n 3, 1) := by decide +kernel
theorem dX12_tellTest_52 : decode cX12_tellTest 52 = .ok (.aload_n 0, 1) := by decide +kernel
theorem dX12_tellTest_53 : decode cX12_tellTest 53 = .ok (.getfield 256, 3) := by decide +kernel
theorem dX12_tellTest_56 : decode cX12_tellTest 56 = .ok (.ifCond .ne 18, 3) := by decide +kernel
theorem dX12_tellTest_59 : decode cX12_tellTest 59 = .ok (.iload_n 3, 1) := by decide +kernel
theorem dX12_tellTest_60 : decode cX12_tellTest 60 = .ok (.ifCond .lt 9, 3) := by decide +kernel
theorem dX12_tellTest_63 : decode cX12_tellTest 63 = .ok (.iload_n 3, 1) := by decide +kernel
theorem dX12_tellTest_64 : decode cX12_tellTest 64 = .ok (.bipush 6, 2) := by decide +kernel
theorem dX12_tellTest_66 : decode cX12_tellTest 66 = .ok (.if_icmp .le 8, 3) := by decide +kernel
theorem dX12_tellTest_69 : decode cX12_tellTest 69 = .ok (.aload_n 0, 1) := by decide +kernel
theorem dX12_tellTest_70 : decode cX12_tellTest 70 = .ok (.iconst 1, 1) := by decide +kernel
theorem dX12_tellTest_71 : decode cX12_tellTest 71 = .ok (.invokevirtual 271, 3) := by decide +kernel
theorem dX12_tellTest_74 : decode cX12_tellTest 74 = .ok (.aload_n 0, 1) := by decide +kernel
theorem dX12_tellTest_75 : decode cX12_tellTest 75 = .ok (.invokevirtual 277, 3) := by decide +kernel
theorem dX12_tellTest_78 : decode cX12_tellTest 78 = .ok (.iconst 0, 1) := by decide +kernel
theorem dX12_tellTest_79 : decode cX12_tellTest 79 = .ok (.istore 4, 2) := by decide +kernel
theorem dX12_tellTest_81 : decode cX12_tellTest 81 = .ok (.iload_n 3, 1) := by decide +kernel
theorem dX12_tellTest_82 : decode cX12_tellTest 82 = .ok (.bipush 6, 2) := by decide +kernel
theorem dX12_tellTest_84 : decode cX12_tellTest 84 = .ok (.if_icmp .ge 29, 3) := by decide +kernel
theorem dX12_tellTest_87 : decode cX12_tellTest 87 = .ok (.aload_n 0, 1) := by decide +kernel
theorem dX12_tellTest_88 : decode cX12_tellTest 88 = .ok (.iload_n 3, 1) := by decide +kernel
theorem dX12_tellTest_89 : decode cX12_tellTest 89 = .ok (.ifCond .ne 7, 3) := by decide +kernel
theorem dX12_tellTest_92 : decode cX12_tellTest 92 = .ok (.iconst 3, 1) := by decide +kernel
theorem dX12_tellTest_93 : decode cX12_tellTest 93 = .ok (.goto 15, 3) := by decide +kernel
theorem dX12_tellTest_96 : decode cX12_tellTest 96 = .ok (.iload_n 3, 1) := by decide +kernel
theorem dX12_tellTest_97 : decode cX12_tellTest 97 = .ok (.iconst 5, 1) := by decide +kernel
theorem dX12_tellTest_98 : decode cX12_tellTest 98 = .ok (.if_icmp .ne 8, 3) := by decide +kernel
theorem dX12_tellTest_101 : decode cX12_tellTest 101 = .ok (.bipush 95, 2) := by decide +kernel
theorem dX12_tellTest_103 : decode cX12_tellTest 103 = .ok (.goto 5, 3) := by decide +kernel
theorem dX12_tellTest_106 : decode cX12_tellTest 106 = .ok (.bipush 7, 2) := by decide +kernel
theorem dX12_tellTest_108 : decode cX12_tellTest 108 = .ok (.invokevirtual 314, 3) := by decide +kernel
theorem dX12_tellTest_111 : decode cX12_tellTest 111 = .ok (.istore 4, 2) := by decide +kernel
theorem dX12_tellTest_113 : decode cX12_tellTest 113 = .ok (.aload_n 0, 1) := by decide +kernel
theorem dX12_tellTest_114 : decode cX12_tellTest 114 = .ok (.iconst 2, 1) := by decide +kernel
theorem dX12_tellTest_115 : decode cX12_tellTest 115 = .ok (.bipush 14, 2) := by decide +kernel
theorem dX12_tellTest_117 : decode cX12_tellTest 117 = .ok (.iconst 2, 1) := by decide +kernel
theorem dX12_tellTest_118 : decode cX12_tellTest 118 = .ok (.iload_n 3, 1) := by decide +kernel
theorem dX12_tellTest_119 : decode cX12_tellTest 119 = .ok (.imul, 1) := by decide +kernel
theorem dX12_tellTest_120 : decode cX12_tellTest 120 = .ok (.iload_n 1, 1) := by decide +kernel
theorem dX12_tellTest_121 : decode cX12_tellTest 121 = .ok (.iadd, 1) := by decide +kernel
theorem dX12_tellTest_122 : decode cX12_tellTest 122 = .ok (.iload 4, 2) := by decide +kernel
theorem dX12_tellTest_124 : decode cX12_tellTest 124 = .ok (.invokevirtual 317, 3) := by decide +kernel
theorem dX12_tellTest_127 : decode cX12_tellTest 127 = .ok (.return_, 1) := by decide +kernel
abbrev rm_X12_tellTest : Room := { frames := 4, cells := 0, slots := 0, locals := 85 }
set_option maxRecDepth 100000 in
set_option maxHeartbeats 4000000 in
theorem ct_X12_tellTest {w : Wd} {l : Launch} {σ : St} {σ' : St} (h : m_X12_tellTest σ = some σ') : Ct w l yX12_tellTest (Cond.code yX12_tellTest cX12_tellTest 5 none :: TB) rm_X12_tellTest [rv w 170] σ none True σ' := by
  refine Ct.of2 [some (rv w 170), none, none, none, none] 4 rfl pn_RX12 (Nat.le_of_ble_eq_true rfl) ?_
  intro p e s m args below meth c C hr hlk
  unfold m_X12_tellTest at h
  refine g_iconst C dX12_tellTest_0 ?_
  refine g_istore_n (L1 := [some (rv w 170), some (iv 0), none, none, none]) C dX12_tellTest_1 rfl (Nat.le_of_ble_eq_true rfl) rfl ?_
  obtain ⟨b1, hb1, hF1⟩ := bnd h
  have hX1 : ∀ (x8 : Int) (σ9 : St) , InI x8 → (x8, σ9) = b1 → GM w p l e rm_X12_tellTest s m args below meth c none True σ' 5 22 [some (rv w 170), some (iv x8), none, none, none] [] σ9 := by
    intro x8 σ9 ix8 q
    subst q
    have h := hF1
    refine g_aload_n C dX12_tellTest_22 rfl ?_
    refine g_getR (j := 5) C dX12_tellTest_23 rfl (Nat.le_of_ble_eq_true rfl) (Nat.le_of_ble_eq_true rfl) fl_12_20 rfl rfl (r := 173) rfl ?_
    refine g_aload_n C dX12_tellTest_26 rfl ?_
    refine g_getI (j := 11) C dX12_tellTest_27 rfl (Nat.le_of_ble_eq_true rfl) (Nat.le_of_ble_eq_true rfl) fl_12_259 rfl rfl (fun i10 => ?_)
    obtain ⟨x11, qx11, h⟩ := bnd h
    refine g_iald C dX12_tellTest_30 rfl rfl qx11 i10 (fun ix11 => ?_)
    refine g_istore_n (L1 := [some (rv w 170), some (iv x8), some (iv x11), none, none]) C dX12_tellTest_31 rfl (Nat.le_of_ble_eq_true rfl) rfl ?_
    refine g_aload_n C dX12_tellTest_32 rfl ?_
    refine g_bipush C dX12_tellTest_33 rfl ?_
    obtain ⟨x12, qx12, h⟩ := bnd h
    refine g_callV1 (As := [iv 25]) C dX12_tellTest_35 mi_X12_is ml_12_274 (ct_X12_is (by decide) qx12) rfl rfl ⟨rfl, rfl⟩ ⟨Nat.le_of_ble_eq_true rfl, Nat.le_of_ble_eq_true rfl⟩ ⟨Nat.zero_le _, Nat.zero_le _⟩ rfl (Nat.le_of_ble_eq_true rfl) (fun ix12 => ?_)
    have hJ51_37 : ∀ (x14 : Int) , InI x14 → m_X12_tellTest_J51 σ9 x8 x14 = some σ' → GM w p l e rm_X12_tellTest s m args below meth c none True σ' 5 51 [some (rv w 170), some (iv x8), none, none, none] [iv x14] σ9 := by
      intro x14 ix14 h
      unfold m_X12_tellTest_J51 at h
      refine g_istore_n (L1 := [some (rv w 170), some (iv x8), none, some (iv x14), none]) C dX12_tellTest_51 rfl (Nat.le_of_ble_eq_true rfl) rfl ?_
      refine g_aload_n C dX12_tellTest_52 rfl ?_
      refine g_getI (j := 12) C dX12_tellTest_53 rfl (Nat.le_of_ble_eq_true rfl) (Nat.le_of_ble_eq_true rfl) fl_12_256 rfl rfl (fun i15 => ?_)
      have hJ74_36 : ∀ (σ21 : St) , m_X12_tellTest_J74 x14 x8 σ21 = some σ' → GM w p l e rm_X12_tellTest s m args below meth c none True σ' 5 74 [some (rv w 170), some (iv x8), none, some (iv x14), none] [] σ21 := by
        intro σ21 h
        unfold m_X12_tellTest_J74 at h
        refine g_aload_n C dX12_tellTest_74 rfl ?_
        obtain ⟨σ22, qσ22, h⟩ := bnd h
        refine g_callV0 (As := []) C dX12_tellTest_75 mi_X12_next ml_12_277 (ct_X12_next qσ22) rfl rfl ⟨rfl, rfl⟩ ⟨Nat.le_of_ble_eq_true rfl, Nat.le_of_ble_eq_true rfl⟩ ⟨Nat.zero_le _, Nat.zero_le _⟩ rfl (Nat.le_of_ble_eq_true rfl) (fun _ => ?_)
        refine g_iconst C dX12_tellTest_78 ?_
        refine g_istore (L1 := [some (rv w 170), some (iv x8), none, some (iv x14), some (iv 0)]) C dX12_tellTest_79 rfl (Nat.le_of_ble_eq_true rfl) rfl ?_
        refine g_iload_n C dX12_tellTest_81 rfl ?_
        refine g_bipush C dX12_tellTest_82 rfl ?_
        have hJ113_35 : ∀ (x32 : Int) (σ33 : St) , InI x32 → m_X12_tellTest_J113 x14 x8 x32 σ33 = some σ' → GM w p l e rm_X12_tellTest s m args below meth c none True σ' 5 113 [some (rv w 170), some (iv x8), none, some (iv x14), some (iv x32)] [] σ33 := by
          intro x32 σ33 ix32 h
          unfold m_X12_tellTest_J113 at h
          refine g_aload_n C dX12_tellTest_113 rfl ?_
          refine g_iconst C dX12_tellTest_114 ?_
          refine g_bipush C dX12_tellTest_115 rfl ?_
          refine g_iconst C dX12_tellTest_117 ?_
          refine g_iload_n C dX12_tellTest_118 rfl ?_
          refine g_imul C dX12_tellTest_119 ?_
          refine g_iload_n C dX12_tellTest_120 rfl ?_
          refine g_iadd C dX12_tellTest_121 ?_
          refine g_iload C dX12_tellTest_122 rfl ?_
          obtain ⟨σ34, qσ34, h⟩ := bnd h
          refine g_callV0 (As := [iv 2, iv 14, iv (wr (wr (2 * x14) + x8)), iv x32]) C dX12_tellTest_124 mi_X12_opens ml_12_317 (ct_X12_opens (by decide) (by decide) (iwr _) ix32 qσ34) rfl rfl ⟨rfl, rfl⟩ ⟨Nat.le_of_ble_eq_true rfl, Nat.le_of_ble_eq_true rfl⟩ ⟨Nat.zero_le _, Nat.zero_le _⟩ rfl (Nat.le_of_ble_eq_true rfl) (fun _ => ?_)
          exact g_vretP C dX12_tellTest_127 hr hlk h
        refine g_icmp_ge C dX12_tellTest_84 ix14 (by decide) rfl (tgt := 113) (fun c23 => ?_) (fun c23 => ?_)
        · have h := ifT c23 h
          exact hJ113_35 0 σ22 (by decide) h
        · have h := ifF c23 h
          refine g_aload_n C dX12_tellTest_87 rfl ?_
          refine g_iload_n C dX12_tellTest_88 rfl ?_
          refine g_if_ne C dX12_tellTest_89 ix14 rfl (tgt := 96) (fun c24 => ?_) (fun c24 => ?_)
          · have h := ifF c24 h
            refine g_iload_n C dX12_tellTest_96 rfl ?_
            refine g_iconst C dX12_tellTest_97 ?_
            refine g_icmp_ne C dX12_tellTest_98 ix14 (by decide) rfl (tgt := 106) (fun c25 => ?_) (fun c25 => ?_)
            · have h := ifF c25 h
              refine g_bipush C dX12_tellTest_106 rfl ?_
              obtain ⟨⟨x26, σ27⟩, qx26, h⟩ := bnd h
              refine g_callV1 (As := [iv 7]) C dX12_tellTest_108 mi_X12_number ml_12_314 (ct_X12_number (by decide) qx26) rfl rfl ⟨rfl, rfl⟩ ⟨Nat.le_of_ble_eq_true rfl, Nat.le_of_ble_eq_true rfl⟩ ⟨Nat.zero_le _, Nat.zero_le _⟩ rfl (Nat.le_of_ble_eq_true rfl) (fun ix26 => ?_)
              refine g_istore (L1 := [some (rv w 170), some (iv x8), none, some (iv x14), some (iv x26)]) C dX12_tellTest_111 rfl (Nat.le_of_ble_eq_true rfl) rfl ?_
              exact hJ113_35 x26 σ27 ix26 h
            · have h := ifT c25 h
              refine g_bipush C dX12_tellTest_101 rfl ?_
              refine g_goto C dX12_tellTest_103 rfl (tgt := 108) ?_
              obtain ⟨⟨x28, σ29⟩, qx28, h⟩ := bnd h
              refine g_callV1 (As := [iv 95]) C dX12_tellTest_108 mi_X12_number ml_12_314 (ct_X12_number (by decide) qx28) rfl rfl ⟨rfl, rfl⟩ ⟨Nat.le_of_ble_eq_true rfl, Nat.le_of_ble_eq_true rfl⟩ ⟨Nat.zero_le _, Nat.zero_le _⟩ rfl (Nat.le_of_ble_eq_true rfl) (fun ix28 => ?_)
              refine g_istore (L1 := [some (rv w 170), some (iv x8), none, some (iv x14), some (iv x28)]) C dX12_tellTest_111 rfl (Nat.le_of_ble_eq_true rfl) rfl ?_
              exact hJ113_35 x28 σ29 ix28 h
          · have h := ifT c24 h
            refine g_iconst C dX12_tellTest_92 ?_
            refine g_goto C dX12_tellTest_93 rfl (tgt := 108) ?_
            obtain ⟨⟨x30, σ31⟩, qx30, h⟩ := bnd h
            refine g_callV1 (As := [iv 3]) C dX12_tellTest_108 mi_X12_number ml_12_314 (ct_X12_number (by decide) qx30) rfl rfl ⟨rfl, rfl⟩ ⟨Nat.le_of_ble_eq_true rfl, Nat.le_of_ble_eq_true rfl⟩ ⟨Nat.zero_le _, Nat.zero_le _⟩ rfl (Nat.le_of_ble_eq_true rfl) (fun ix30 => ?_)
            refine g_istore (L1 := [some (rv w 170), some (iv x8), none, some (iv x14), some (iv x30)]) C dX12_tellTest_111 rfl (Nat.le_of_ble_eq_true rfl) rfl ?_
            exact hJ113_35 x30 σ31 ix30 h
      refine g_if_ne C dX12_tellTest_56 i15 rfl (tgt := 74) (fun c16 => ?_) (fun c16 => ?_)
      · have h := ifF c16 h
        exact hJ74_36 σ9 h
      · have h := ifT c16 h
        refine g_iload_n C dX12_tellTest_59 rfl ?_
        refine g_if_lt C dX12_tellTest_60 ix14 rfl (tgt := 69) (fun c17 => ?_) (fun c17 => ?_)
        · have h := ifT c17 h
          refine g_aload_n C dX12_tellTest_69 rfl ?_
          refine g_iconst C dX12_tellTest_70 ?_
          obtain ⟨σ18, qσ18, h⟩ := bnd h
          refine g_callV0 (As := [iv 1]) C dX12_tellTest_71 mi_X12_fail ml_12_271 (ct_X12_fail (by decide) qσ18) rfl rfl ⟨rfl, rfl⟩ ⟨Nat.le_of_ble_eq_true rfl, Nat.le_of_ble_eq_true rfl⟩ ⟨Nat.zero_le _, Nat.zero_le _⟩ rfl (Nat.le_of_ble_eq_true rfl) (fun _ => ?_)
          exact hJ74_36 σ18 h
        · have h := ifF c17 h
          refine g_iload_n C dX12_tellTest_63 rfl ?_
          refine g_bipush C dX12_tellTest_64 rfl ?_
          refine g_icmp_le C dX12_tellTest_66 ix14 (by decide) rfl (tgt := 74) (fun c19 => ?_) (fun c19 => ?_)
          · have h := ifT c19 h
            exact hJ74_36 σ9 h
          · have h := ifF c19 h
            refine g_aload_n C dX12_tellTest_69 rfl ?_
            refine g_iconst C dX12_tellTest_70 ?_
            obtain ⟨σ20, qσ20, h⟩ := bnd h
            refine g_callV0 (As := [iv 1]) C dX12_tellTest_71 mi_X12_fail ml_12_271 (ct_X12_fail (by decide) qσ20) rfl rfl ⟨rfl, rfl⟩ ⟨Nat.le_of_ble_eq_true rfl, Nat.le_of_ble_eq_true rfl⟩ ⟨Nat.zero_le _, Nat.zero_le _⟩ rfl (Nat.le_of_ble_eq_true rfl) (fun _ => ?_)
            exact hJ74_36 σ20 h
    refine g_if_eq C dX12_tellTest_38 (zI ix12) rfl (tgt := 45) (fun c13 => ?_) (fun c13 => ?_)
    · have h := ifT c13 h
      refine g_iload_n C dX12_tellTest_45 rfl ?_
      refine g_bipush C dX12_tellTest_46 rfl ?_
      refine g_isub C dX12_tellTest_48 ?_
      refine g_iconst C dX12_tellTest_49 ?_
      refine g_iadd C dX12_tellTest_50 ?_
      refine g_mask [true, true, false, true, true] ?_
      exact hJ51_37 (wr (wr (x11 - 40) + 1)) (iwr _) h
    · have h := ifF c13 h
      refine g_iconst C dX12_tellTest_41 ?_
      refine g_goto C dX12_tellTest_42 rfl (tgt := 51) ?_
      refine g_mask [true, true, false, true, true] ?_
      exact hJ51_37 0 (by decide) h
  have hL1 : ∀ (n : Nat) (x2 : Int) (σ3 : St) , InI x2 → lpN (fun a => m_X12_tellTest_L2 a.1 a.2) n (x2, σ3) = some b1 → GM w p l e rm_X12_tellTest s m args below meth c none True σ' 5 2 [some (rv w 170), some (iv x2), none, none, none] [] σ3 := by
    intro n
    induction n with
    | zero => intro x2 σ3 ix2 q; cases q
    | succ n ih1 =>
      intro x2 σ3 ix2 q
      obtain ⟨o1, h, hk1⟩ := lp_step q
      replace h : m_X12_tellTest_L2 x2 σ3 = some o1 := h
      unfold m_X12_tellTest_L2 at h
      refine g_aload_n C dX12_tellTest_2 rfl ?_
      refine g_bipush C dX12_tellTest_3 rfl ?_
      obtain ⟨x4, qx4, h⟩ := bnd h
      refine g_callV1 (As := [iv 39]) C dX12_tellTest_5 mi_X12_is ml_12_274 (ct_X12_is (by decide) qx4) rfl rfl ⟨rfl, rfl⟩ ⟨Nat.le_of_ble_eq_true rfl, Nat.le_of_ble_eq_true rfl⟩ ⟨Nat.zero_le _, Nat.zero_le _⟩ rfl (Nat.le_of_ble_eq_true rfl) (fun ix4 => ?_)
      refine g_if_eq C dX12_tellTest_8 (zI ix4) rfl (tgt := 22) (fun c5 => ?_) (fun c5 => ?_)
      · have h := ifT c5 h
        obtain rfl := Option.some.inj h
        exact hX1 x2 σ3 ix2 (lpR hk1).symm
      · have h := ifF c5 h
        refine g_iconst C dX12_tellTest_11 ?_
        refine g_iload_n C dX12_tellTest_12 rfl ?_
        refine g_isub C dX12_tellTest_13 ?_
        obtain ⟨x6, qx6, h⟩ := bnd h
        have qx6 := Option.some.inj qx6
        have ix6 : InI x6 := by rw [← qx6]; exact (iwr _)
        refine g_E qx6 ?_
        refine g_istore_n (L1 := [some (rv w 170), some (iv x6), none, none, none]) C dX12_tellTest_14 rfl (Nat.le_of_ble_eq_true rfl) rfl ?_
        refine g_aload_n C dX12_tellTest_15 rfl ?_
        obtain ⟨σ7, qσ7, h⟩ := bnd h
        refine g_callV0 (As := []) C dX12_tellTest_16 mi_X12_next ml_12_277 (ct_X12_next qσ7) rfl rfl ⟨rfl, rfl⟩ ⟨Nat.le_of_ble_eq_true rfl, Nat.le_of_ble_eq_true rfl⟩ ⟨Nat.zero_le _, Nat.zero_le _⟩ rfl (Nat.le_of_ble_eq_true rfl) (fun _ => ?_)
        refine g_goto C dX12_tellTest_19 rfl (tgt := 2) ?_
        obtain rfl := Option.some.inj h
        exact ih1 _ _ ix6 (lpL hk1)
  exact hL1 FU _ _ (by decide) hb1
theorem dX12_tellPlain_0 : decode cX12_tellPlain 0 = .ok (.iload_n 1, 1) := by decide +kernel
theorem dX12_tellPlain_1 : decode cX12_tellPlain 1 = .ok (.bipush 33, 2) := by decide +kernel
theorem dX12_tellPlain_3 : decode cX12_tellPlain 3 = .ok (.if_icmp .ne 101, 3) := by decide +kernel
theorem dX12_tellPlain_6 : decode cX12_tellPlain 6 = .ok (.aload_n 0, 1) := by decide +kernel
theorem dX12_tellPlain_7 : decode cX12_tellPlain 7 = .ok (.getfield 259, 3) := by decide +kernel
theorem dX12_tellPlain_10 : decode cX12_tellPlain 10 = .ok (.istore_n 2, 1) := by decide +kernel
theorem dX12_tellPlain_11 : decode cX12_tellPlain 11 = .ok (.aload_n 0, 1) := by decide +kernel
theorem dX12_tellPlain_12 : decode cX12_tellPlain 12 = .ok (.iconst 1, 1) := by decide +kernel
theorem dX12_tellPlain_13 : decode cX12_tellPlain 13 = .ok (.invokevirtual 295, 3) := by decide +kernel
theorem dX12_tellPlain_16 : decode cX12_tellPlain 16 = .ok (.aload_n 0, 1) := by decide +kernel
theorem dX12_tellPlain_17 : decode cX12_tellPlain 17 = .ok (.iconst 4, 1) := by decide +kernel
theorem dX12_tellPlain_18 : decode cX12_tellPlain 18 = .ok (.invokevirtual 295, 3) := by decide +kernel
theorem dX12_tellPlain_21 : decode cX12_tellPlain 21 = .ok (.aload_n 0, 1) := by decide +kernel
theorem dX12_tellPlain_22 : decode cX12_tellPlain 22 = .ok (.getfield 256, 3) := by decide +kernel
theorem dX12_tellPlain_25 : decode cX12_tellPlain 25 = .ok (.ifCond .le 4, 3) := by decide +kernel
theorem dX12_tellPlain_28 : decode cX12_tellPlain 28 = .ok (.return_, 1) := by decide +kernel
theorem dX12_tellPlain_29 : decode cX12_tellPlain 29 = .ok (.iconst (-1), 1) := by decide +kernel
theorem dX12_tellPlain_30 : decode cX12_tellPlain 30 = .ok (.istore_n 3, 1) := by decide +kernel
theorem dX12_tellPlain_31 : decode cX12_tellPlain 31 = .ok (.aload_n 0, 1) := by decide +kernel
theorem dX12_tellPlain_32 : decode cX12_tellPlain 32 = .ok (.getfield 40, 3) := by decide +kernel
theorem dX12_tellPlain_35 : decode cX12_tellPlain 35 = .ok (.aload_n 0, 1) := by decide +kernel
theorem dX12_tellPlain_36 : decode cX12_tellPlain 36 = .ok (.getfield 286, 3) := by decide +kernel
theorem dX12_tellPlain_39 : decode cX12_tellPlain 39 = .ok (.iaload, 1) := by decide +kernel
theorem dX12_tellPlain_40 : decode cX12_tellPlain 40 = .ok (.iconst 1, 1) := by decide +kernel
theorem dX12_tellPlain_41 : decode cX12_tellPlain 41 = .ok (.isub, 1) := by decide +kernel
theorem dX12_tellPlain_42 : decode cX12_tellPlain 42 = .ok (.istore 4, 2) := by decide +kernel
theorem dX12_tellPlain_44 : decode cX12_tellPlain 44 = .ok (.iload 4, 2) := by decide +kernel
theorem dX12_tellPlain_46 : decode cX12_tellPlain 46 = .ok (.ifCond .lt 37, 3) := by decide +kernel
theorem dX12_tellPlain_49 : decode cX12_tellPlain 49 = .ok (.aload_n 0, 1) := by decide +kernel
theorem dX12_tellPlain_50 : decode cX12_tellPlain 50 = .ok (.getfield 43, 3) := by decide +kernel
theorem dX12_tellPlain_53 : decode cX12_tellPlain 53 = .ok (.bipush 8, 2) := by decide +kernel
theorem dX12_tellPlain_55 : decode cX12_tellPlain 55 = .ok (.aload_n 0, 1) := by decide +kernel
theorem dX12_tellPlain_56 : decode cX12_tellPlain 56 = .ok (.getfield 286, 3) := by decide +kernel
theorem dX12_tellPlain_59 : decode cX12_tellPlain 59 = .ok (.imul, 1) := by decide +kernel
theorem dX12_tellPlain_60 : decode cX12_tellPlain 60 = .ok (.iload 4, 2) := by decide +kernel
theorem dX12_tellPlain_62 : decode cX12_tellPlain 62 = .ok (.iadd, 1) := by decide +kernel
theorem dX12_tellPlain_63 : decode cX12_tellPlain 63 = .ok (.laload, 1) := by decide +kernel
theorem dX12_tellPlain_64 : decode cX12_tellPlain 64 = .ok (.aload_n 0, 1) := by decide +kernel
theorem dX12_tellPlain_65 : decode cX12_tellPlain 65 = .ok (.getfield 30, 3) := by decide +kernel
theorem dX12_tellPlain_68 : decode cX12_tellPlain 68 = .ok (.iload_n 2, 1) := by decide +kernel
theorem dX12_tellPlain_69 : decode cX12_tellPlain 69 = .ok (.laload, 1) := by decide +kernel
theorem dX12_tellPlain_70 : decode cX12_tellPlain 70 = .ok (.lcmp, 1) := by decide +kernel
theorem dX12_tellPlain_71 : decode cX12_tellPlain 71 = .ok (.ifCond .ne 6, 3) := by decide +kernel
theorem dX12_tellPlain_74 : decode cX12_tellPlain 74 = .ok (.iload 4, 2) := by decide +kernel
theorem dX12_tellPlain_76 : decode cX12_tellPlain 76 = .ok (.istore_n 3, 1) := by decide +kernel
theorem dX12_tellPlain_77 : decode cX12_tellPlain 77 = .ok (.iinc 4 (-1), 3) := by decide +kernel
theorem dX12_tellPlain_80 : decode cX12_tellPlain 80 = .ok (.goto (-36), 3) := by decide +kernel
theorem dX12_tellPlain_83 : decode cX12_tellPlain 83 = .ok (.iload_n 3, 1) := by decide +kernel
theorem dX12_tellPlain_84 : decode cX12_tellPlain 84 = .ok (.iconst (-1), 1) := by decide +kernel
theorem dX12_tellPlain_85 : decode cX12_tellPlain 85 = .ok (.if_icmp .ne 9, 3) := by decide +kernel
theorem dX12_tellPlain_88 : decode cX12_tellPlain 88 = .ok (.aload_n 0, 1) := by decide +kernel
theorem dX12_tellPlain_89 : decode cX12_tellPlain 89 = .ok (.iconst 4, 1) := by decide +kernel
theorem dX12_tellPlain_90 : decode cX12_tellPlain 90 = .ok (.iload_n 2, 1) := by decide +kernel
theorem dX12_tellPlain_91 : decode cX12_tellPlain 91 = .ok (.invokevirtual 298, 3) := by decide +kernel
theorem dX12_tellPlain_94 : decode cX12_tellPlain 94 = .ok (.aload_n 0, 1) := by decide +kernel
theorem dX12_tellPlain_95 : decode cX12_tellPlain 95 = .ok (.bipush 11, 2) := by decide +kernel
theorem dX12_tellPlain_97 : decode cX12_tellPlain 97 = .ok (.iload_n 3, 1) := by decide +kernel
theorem dX12_tellPlain_98 : decode cX12_tellPlain 98 = .ok (.iconst 0, 1) := by decide +kernel
theorem dX12_tellPlain_99 : decode cX12_tellPlain 99 = .ok (.iconst 0, 1) := by decide +kernel
theorem dX12_tellPlain_100 : decode cX12_tellPlain 100 = .ok (.invokevirtual 327, 3) := by decide +kernel
theorem dX12_tellPlain_103 : decode cX12_tellPlain 103 = .ok (.return_, 1) := by decide +kernel
theorem dX12_tellPlain_104 : decode cX12_tellPlain 104 = .ok (.iconst 0, 1) := by decide +kernel
theorem dX12_tellPlain_105 : decode cX12_tellPlain 105 = .ok (.istore_n 2, 1) := by decide +kernel
theorem dX12_tellPlain_106 : decode cX12_tellPlain 106 = .ok (.iload_n 1, 1) := by decide +kernel
theorem dX12_tellPlain_107 : decode cX12_tellPlain 107 = .ok (.bipush 32, 2) := by decide +kernel
theorem dX12_tellPlain_109 : decode cX12_tellPlain 109 = .ok (.if_icmp .eq 42, 3) := by decide +kernel
theorem dX12_tellPlain_112 : decode cX12_tellPlain 112 = .ok (.aload_n 0, 1) := by decide +kernel
theorem dX12_tellPlain_113 : decode cX12_tellPlain 113 = .ok (.iload_n 1, 1) := by decide +kernel
theorem dX12_tellPlain_114 : decode cX12_tellPlain 114 = .ok (.bipush 22, 2) := by decide +kernel
theorem dX12_tellPlain_116 : decode cX12_tellPlain 116 = .ok (.if_icmp .ne 8, 3) := by decide +kernel
theorem dX12_tellPlain_119 : decode cX12_tellPlain 119 = .ok (.bipush 9, 2) := by decide +kernel
theorem dX12_tellPlain_121 : decode cX12_tellPlain 121 = .ok (.goto 26, 3) := by decide +kernel
theorem dX12_tellPlain_124 : decode cX12_tellPlain 124 = .ok (.iload_n 1, 1) := by decide +kernel
theorem dX12_tellPlain_125 : decode cX12_tellPlain 125 = .ok (.bipush 25, 2) := by decide +kernel
theorem dX12_tellPlain_127 : decode cX12_tellPlain 127 = .ok (.if_icmp .ge 8, 3) := by decide +kernel
theorem dX12_tellPlain_130 : decode cX12_tellPlain 130 = .ok (.bipush 95, 2) := by decide +kernel
theorem dX12_tellPlain_132 : decode cX12_tellPlain 132 = .ok (.goto 15, 3) := by decide +kernel
theorem dX12_tellPlain_135 : decode cX12_tellPlain 135 = .ok (.iload_n 1, 1) := by decide +kernel
theorem dX12_tellPlain_136 : decode cX12_tellPlain 136 = .ok (.bipush 27, 2) := by decide +kernel
theorem dX12_tellPlain_138 : decode cX12_tellPlain 138 = .ok (.if_icmp .ge 7, 3) := by decide +kernel
theorem dX12_tellPlain_141 : decode cX12_tellPlain 141 = .ok (.iconst 3, 1) := by decide +kernel
theorem dX12_tellPlain_142 : decode cX12_tellPlain 142 = .ok (.goto 5, 3) := by decide +kernel
theorem dX12_tellPlain_145 : decode cX12_tellPlain 145 = .ok (.bipush 7, 2) := by decide +kernel
theorem dX12_tellPlain_147 : decode cX12_tellPlain 147 = .ok (.invokevirtual 314, 3) := by decide +kernel
theorem dX12_tellPlain_150 : decode cX12_tellPlain 150 = .ok (.istore_n 2, 1) := by decide +kernel
theorem dX12_tellPlain_151 : decode cX12_tellPlain 151 = .ok (.aload_n 0, 1) := by decide +kernel
theorem dX12_tellPlain_152 : decode cX12_tellPlain 152 = .ok (.iconst 4, 1) := by decide +kernel
theorem dX12_tellPlain_153 : decode cX12_tellPlain 153 = .ok (.invokevirtual 295, 3) := by decide +kernel
theorem dX12_tellPlain_156 : decode cX12_tellPlain 156 = .ok (.aload_n 0, 1) := by decide +kernel
theorem dX12_tellPlain_157 : decode cX12_tellPlain 157 = .ok (.getfield 256, 3) := by decide +kernel
theorem dX12_tellPlain_160 : decode cX12_tellPlain 160 = .ok (.ifCond .ne 14, 3) := by decide +kernel
theorem dX12_tellPlain_163 : decode cX12_tellPlain 163 = .ok (.aload_n 0, 1) := by decide +kernel
theorem dX12_tellPlain_164 : decode cX12_tellPlain 164 = .ok (.iload_n 1, 1) := by decide +kernel
theorem dX12_tellPlain_165 : decode cX12_tellPlain 165 = .ok (.bipush 22, 2) := by decide +kernel
theorem dX12_tellPlain_167 : decode cX12_tellPlain 167 = .ok (.isub, 1) := by decide +kernel
theorem dX12_tellPlain_168 : decode cX12_tellPlain 168 = .ok (.iload_n 2, 1) := by decide +kernel
theorem dX12_tellPlain_169 : decode cX12_tellPlain 169 = .ok (.iconst 0, 1) := by decide +kernel
theorem dX12_tellPlain_170 : decode cX12_tellPlain 170 = .ok (.iconst 0, 1) := by decide +kernel
theorem dX12_tellPlain_171 : decode cX12_tellPlain 171 = .ok (.invokevirtual 327, 3) := by decide +kernel
theorem dX12_tellPlain_174 : decode cX12_tellPlain 174 = .ok (.return_, 1) := by decide +kernel
abbrev rm_X12_tellPlain : Room := { frames := 4, cells := 0, slots := 0, locals := 85 }
set_option maxRecDepth 100000 in
set_option maxHeartbeats 4000000 in
theorem ct_X12_tellPlain {w : Wd} {l : Launch} {a1 : Int} {σ : St} {σ' : St} (ia1 : InI a1) (h : m_X12_tellPlain a1 σ = some σ') : Ct w l yX12_tellPlain (Cond.code yX12_tellPlain cX12_tellPlain 5 none :: TB) rm_X12_tellPlain [rv w 170, iv a1] σ none True σ' := by
  refine Ct.of2 [some (rv w 170), some (iv a1), none, none, none] 3 rfl pn_RX12 (Nat.le_of_ble_eq_true rfl) ?_
  intro p e s m args below meth c C hr hlk
  unfold m_X12_tellPlain at h
  refine g_iload_n C dX12_tellPlain_0 rfl ?_
  refine g_bipush C dX12_tellPlain_1 rfl ?_
  refine g_icmp_ne C dX12_tellPlain_3 ia1 (by decide) rfl (tgt := 104) (fun c1 => ?_) (fun c1 => ?_)
  · have h := ifF c1 h
    refine g_iconst C dX12_tellPlain_104 ?_
    refine g_istore_n (L1 := [some (rv w 170), some (iv a1), some (iv 0), none, none]) C dX12_tellPlain_105 rfl (Nat.le_of_ble_eq_true rfl) rfl ?_
    refine g_iload_n C dX12_tellPlain_106 rfl ?_
    refine g_bipush C dX12_tellPlain_107 rfl ?_
    have hJ151_20 : ∀ (x14 : Int) (σ15 : St) , InI x14 → m_X12_tellPlain_J151 a1 x14 σ15 = some σ' → GM w p l e rm_X12_tellPlain s m args below meth c none True σ' 5 151 [some (rv w 170), some (iv a1), some (iv x14), none, none] [] σ15 := by
      intro x14 σ15 ix14 h
      unfold m_X12_tellPlain_J151 at h
      refine g_aload_n C dX12_tellPlain_151 rfl ?_
      refine g_iconst C dX12_tellPlain_152 ?_
      obtain ⟨σ16, qσ16, h⟩ := bnd h
      refine g_callV0 (As := [iv 4]) C dX12_tellPlain_153 mi_X12_must ml_12_295 (ct_X12_must (by decide) qσ16) rfl rfl ⟨rfl, rfl⟩ ⟨Nat.le_of_ble_eq_true rfl, Nat.le_of_ble_eq_true rfl⟩ ⟨Nat.zero_le _, Nat.zero_le _⟩ rfl (Nat.le_of_ble_eq_true rfl) (fun _ => ?_)
      refine g_aload_n C dX12_tellPlain_156 rfl ?_
      refine g_getI (j := 12) C dX12_tellPlain_157 rfl (Nat.le_of_ble_eq_true rfl) (Nat.le_of_ble_eq_true rfl) fl_12_256 rfl rfl (fun i17 => ?_)
      refine g_if_ne C dX12_tellPlain_160 i17 rfl (tgt := 174) (fun c18 => ?_) (fun c18 => ?_)
      · have h := ifF c18 h
        exact g_vretP C dX12_tellPlain_174 hr hlk h
      · have h := ifT c18 h
        refine g_aload_n C dX12_tellPlain_163 rfl ?_
        refine g_iload_n C dX12_tellPlain_164 rfl ?_
        refine g_bipush C dX12_tellPlain_165 rfl ?_
        refine g_isub C dX12_tellPlain_167 ?_
        refine g_iload_n C dX12_tellPlain_168 rfl ?_
        refine g_iconst C dX12_tellPlain_169 ?_
        refine g_iconst C dX12_tellPlain_170 ?_
        obtain ⟨σ19, qσ19, h⟩ := bnd h
        refine g_callV0 (As := [iv (wr (a1 - 22)), iv x14, iv 0, iv 0]) C dX12_tellPlain_171 mi_X12_emit ml_12_327 (ct_X12_emit (iwr _) ix14 (by decide) (by decide) qσ19) rfl rfl ⟨rfl, rfl⟩ ⟨Nat.le_of_ble_eq_true rfl, Nat.le_of_ble_eq_true rfl⟩ ⟨Nat.zero_le _, Nat.zero_le _⟩ rfl (Nat.le_of_ble_eq_true rfl) (fun _ => ?_)
        exact g_vretP C dX12_tellPlain_174 hr hlk h
    refine g_icmp_eq C dX12_tellPlain_109 ia1 (by decide) rfl (tgt := 151) (fun c2 => ?_) (fun c2 => ?_)
    · have h := ifT c2 h
      exact hJ151_20 0 σ (by decide) h
    · have h := ifF c2 h
      refine g_aload_n C dX12_tellPlain_112 rfl ?_
      refine g_iload_n C dX12_tellPlain_113 rfl ?_
      refine g_bipush C dX12_tellPlain_114 rfl ?_
      refine g_icmp_ne C dX12_tellPlain_116 ia1 (by decide) rfl (tgt := 124) (fun c3 => ?_) (fun c3 => ?_)
      · have h := ifF c3 h
        refine g_iload_n C dX12_tellPlain_124 rfl ?_
        refine g_bipush C dX12_tellPlain_125 rfl ?_
        refine g_icmp_ge C dX12_tellPlain_127 ia1 (by decide) rfl (tgt := 135) (fun c4 => ?_) (fun c4 => ?_)
        · have h := ifT c4 h
          refine g_iload_n C dX12_tellPlain_135 rfl ?_
          refine g_bipush C dX12_tellPlain_136 rfl ?_
          refine g_icmp_ge C dX12_tellPlain_138 ia1 (by decide) rfl (tgt := 145) (fun c5 => ?_) (fun c5 => ?_)
          · have h := ifT c5 h
            refine g_bipush C dX12_tellPlain_145 rfl ?_
            obtain ⟨⟨x6, σ7⟩, qx6, h⟩ := bnd h
            refine g_callV1 (As := [iv 7]) C dX12_tellPlain_147 mi_X12_number ml_12_314 (ct_X12_number (by decide) qx6) rfl rfl ⟨rfl, rfl⟩ ⟨Nat.le_of_ble_eq_true rfl, Nat.le_of_ble_eq_true rfl⟩ ⟨Nat.zero_le _, Nat.zero_le _⟩ rfl (Nat.le_of_ble_eq_true rfl) (fun ix6 => ?_)
            refine g_istore_n (L1 := [some (rv w 170), some (iv a1), some (iv x6), none, none]) C dX12_tellPlain_150 rfl (Nat.le_of_ble_eq_true rfl) rfl ?_
            exact hJ151_20 x6 σ7 ix6 h
          · have h := ifF c5 h
            refine g_iconst C dX12_tellPlain_141 ?_
            refine g_goto C dX12_tellPlain_142 rfl (tgt := 147) ?_
            obtain ⟨⟨x8, σ9⟩, qx8, h⟩ := bnd h
            refine g_callV1 (As := [iv 3]) C dX12_tellPlain_147 mi_X12_number ml_12_314 (ct_X12_number (by decide) qx8) rfl rfl ⟨rfl, rfl⟩ ⟨Nat.le_of_ble_eq_true rfl, Nat.le_of_ble_eq_true rfl⟩ ⟨Nat.zero_le _, Nat.zero_le _⟩ rfl (Nat.le_of_ble_eq_true rfl) (fun ix8 => ?_)
            refine g_istore_n (L1 := [some (rv w 170), some (iv a1), some (iv x8), none, none]) C dX12_tellPlain_150 rfl (Nat.le_of_ble_eq_true rfl) rfl ?_
            exact hJ151_20 x8 σ9 ix8 h
        · have h := ifF c4 h
          refine g_bipush C dX12_tellPlain_130 rfl ?_
          refine g_goto C dX12_tellPlain_132 rfl (tgt := 147) ?_
          obtain ⟨⟨x10, σ11⟩, qx10, h⟩ := bnd h
          refine g_callV1 (As := [iv 95]) C dX12_tellPlain_147 mi_X12_number ml_12_314 (ct_X12_number (by decide) qx10) rfl rfl ⟨rfl, rfl⟩ ⟨Nat.le_of_ble_eq_true rfl, Nat.le_of_ble_eq_true rfl⟩ ⟨Nat.zero_le _, Nat.zero_le _⟩ rfl (Nat.le_of_ble_eq_true rfl) (fun ix10 => ?_)
          refine g_istore_n (L1 := [some (rv w 170), some (iv a1), some (iv x10), none, none]) C dX12_tellPlain_150 rfl (Nat.le_of_ble_eq_true rfl) rfl ?_
          exact hJ151_20 x10 σ11 ix10 h
      · have h := ifT c3 h
        refine g_bipush C dX12_tellPlain_119 rfl ?_
        refine g_goto C dX12_tellPlain_121 rfl (tgt := 147) ?_
        obtain ⟨⟨x12, σ13⟩, qx12, h⟩ := bnd h
        refine g_callV1 (As := [iv 9]) C dX12_tellPlain_147 mi_X12_number ml_12_314 (ct_X12_number (by decide) qx12) rfl rfl ⟨rfl, rfl⟩ ⟨Nat.le_of_ble_eq_true rfl, Nat.le_of_ble_eq_true rfl⟩ ⟨Nat.zero_le _, Nat.zero_le _⟩ rfl (Nat.le_of_ble_eq_true rfl) (fun ix12 => ?_)
        refine g_istore_n (L1 := [some (rv w 170), some (iv a1), some (iv x12), none, none]) C dX12_tellPlain_150 rfl (Nat.le_of_ble_eq_true rfl) rfl ?_
        exact hJ151_20 x12 σ13 ix12 h
  · have h := ifT c1 h
    refine g_aload_n C dX12_tellPlain_6 rfl ?_
    refine g_getI (j := 11) C dX12_tellPlain_7 rfl (Nat.le_of_ble_eq_true rfl) (Nat.le_of_ble_eq_true rfl) fl_12_259 rfl rfl (fun i21 => ?_)
    refine g_istore_n (L1 := [some (rv w 170), some (iv a1), some (iv (σ 170 11)), none, none]) C dX12_tellPlain_10 rfl (Nat.le_of_ble_eq_true rfl) rfl ?_
    refine g_aload_n C dX12_tellPlain_11 rfl ?_
    refine g_iconst C dX12_tellPlain_12 ?_
    obtain ⟨σ22, qσ22, h⟩ := bnd h
    refine g_callV0 (As := [iv 1]) C dX12_tellPlain_13 mi_X12_must ml_12_295 (ct_X12_must (by decide) qσ22) rfl rfl ⟨rfl, rfl⟩ ⟨Nat.le_of_ble_eq_true rfl, Nat.le_of_ble_eq_true rfl⟩ ⟨Nat.zero_le _, Nat.zero_le _⟩ rfl (Nat.le_of_ble_eq_true rfl) (fun _ => ?_)
    refine g_aload_n C dX12_tellPlain_16 rfl ?_
    refine g_iconst C dX12_tellPlain_17 ?_
    obtain ⟨σ23, qσ23, h⟩ := bnd h
    refine g_callV0 (As := [iv 4]) C dX12_tellPlain_18 mi_X12_must ml_12_295 (ct_X12_must (by decide) qσ23) rfl rfl ⟨rfl, rfl⟩ ⟨Nat.le_of_ble_eq_true rfl, Nat.le_of_ble_eq_true rfl⟩ ⟨Nat.zero_le _, Nat.zero_le _⟩ rfl (Nat.le_of_ble_eq_true rfl) (fun _ => ?_)
    refine g_aload_n C dX12_tellPlain_21 rfl ?_
    refine g_getI (j := 12) C dX12_tellPlain_22 rfl (Nat.le_of_ble_eq_true rfl) (Nat.le_of_ble_eq_true rfl) fl_12_256 rfl rfl (fun i24 => ?_)
    refine g_if_le C dX12_tellPlain_25 i24 rfl (tgt := 29) (fun c25 => ?_) (fun c25 => ?_)
    · have h := ifT c25 h
      refine g_iconst C dX12_tellPlain_29 ?_
      refine g_istore_n (L1 := [some (rv w 170), some (iv a1), some (iv (σ 170 11)), some (iv (-1)), none]) C dX12_tellPlain_30 rfl (Nat.le_of_ble_eq_true rfl) rfl ?_
      refine g_aload_n C dX12_tellPlain_31 rfl ?_
      refine g_getR (j := 19) C dX12_tellPlain_32 rfl (Nat.le_of_ble_eq_true rfl) (Nat.le_of_ble_eq_true rfl) fl_12_40 rfl rfl (r := 178) rfl ?_
      refine g_aload_n C dX12_tellPlain_35 rfl ?_
      refine g_getI (j := 18) C dX12_tellPlain_36 rfl (Nat.le_of_ble_eq_true rfl) (Nat.le_of_ble_eq_true rfl) fl_12_286 rfl rfl (fun i26 => ?_)
      obtain ⟨x27, qx27, h⟩ := bnd h
      refine g_iald C dX12_tellPlain_39 rfl rfl qx27 i26 (fun ix27 => ?_)
      refine g_iconst C dX12_tellPlain_40 ?_
      refine g_isub C dX12_tellPlain_41 ?_
      obtain ⟨x28, qx28, h⟩ := bnd h
      have qx28 := Option.some.inj qx28
      have ix28 : InI x28 := by rw [← qx28]; exact (iwr _)
      refine g_E qx28 ?_
      refine g_istore (L1 := [some (rv w 170), some (iv a1), some (iv (σ 170 11)), some (iv (-1)), some (iv x28)]) C dX12_tellPlain_42 rfl (Nat.le_of_ble_eq_true rfl) rfl ?_
      refine g_mask [true, false, true, true, true] ?_
      obtain ⟨b29, hb29, hF29⟩ := bnd h
      have hX29 : ∀ (x37 : Int) , InI x37 → x37 = b29 → GM w p l e rm_X12_tellPlain s m args below meth c none True σ' 5 83 [some (rv w 170), none, some (iv (σ 170 11)), some (iv x37), none] [] σ23 := by
        intro x37 ix37 q
        subst q
        have h := hF29
        refine g_iload_n C dX12_tellPlain_83 rfl ?_
        refine g_iconst C dX12_tellPlain_84 ?_
        have hJ94_42 : ∀ (σ40 : St) , m_X12_tellPlain_J94 x37 σ40 = some σ' → GM w p l e rm_X12_tellPlain s m args below meth c none True σ' 5 94 [some (rv w 170), none, none, some (iv x37), none] [] σ40 := by
          intro σ40 h
          unfold m_X12_tellPlain_J94 at h
          refine g_aload_n C dX12_tellPlain_94 rfl ?_
          refine g_bipush C dX12_tellPlain_95 rfl ?_
          refine g_iload_n C dX12_tellPlain_97 rfl ?_
          refine g_iconst C dX12_tellPlain_98 ?_
          refine g_iconst C dX12_tellPlain_99 ?_
          obtain ⟨σ41, qσ41, h⟩ := bnd h
          refine g_callV0 (As := [iv 11, iv x37, iv 0, iv 0]) C dX12_tellPlain_100 mi_X12_emit ml_12_327 (ct_X12_emit (by decide) ix37 (by decide) (by decide) qσ41) rfl rfl ⟨rfl, rfl⟩ ⟨Nat.le_of_ble_eq_true rfl, Nat.le_of_ble_eq_true rfl⟩ ⟨Nat.zero_le _, Nat.zero_le _⟩ rfl (Nat.le_of_ble_eq_true rfl) (fun _ => ?_)
          exact g_vretP C dX12_tellPlain_103 hr hlk h
        refine g_icmp_ne C dX12_tellPlain_85 ix37 (by decide) rfl (tgt := 94) (fun c38 => ?_) (fun c38 => ?_)
        · have h := ifF c38 h
          refine g_mask [true, true, false, true, true] ?_
          exact hJ94_42 σ23 h
        · have h := ifT c38 h
          refine g_aload_n C dX12_tellPlain_88 rfl ?_
          refine g_iconst C dX12_tellPlain_89 ?_
          refine g_iload_n C dX12_tellPlain_90 rfl ?_
          obtain ⟨σ39, qσ39, h⟩ := bnd h
          refine g_callV0 (As := [iv 4, iv (σ 170 11)]) C dX12_tellPlain_91 mi_X12_wrong ml_12_298 (ct_X12_wrong (by decide) i21 qσ39) rfl rfl ⟨rfl, rfl⟩ ⟨Nat.le_of_ble_eq_true rfl, Nat.le_of_ble_eq_true rfl⟩ ⟨Nat.zero_le _, Nat.zero_le _⟩ rfl (Nat.le_of_ble_eq_true rfl) (fun _ => ?_)
          refine g_mask [true, true, false, true, true] ?_
          exact hJ94_42 σ39 h
      have hL29 : ∀ (n : Nat) (x30 : Int) (x31 : Int) , InI x30 → InI x31 → lpN (fun a => m_X12_tellPlain_L44 σ23 σ a.1 a.2) n (x30, x31) = some b29 → GM w p l e rm_X12_tellPlain s m args below meth c none True σ' 5 44 [some (rv w 170), none, some (iv (σ 170 11)), some (iv x30), some (iv x31)] [] σ23 := by
        intro n
        induction n with
        | zero => intro x30 x31 ix30 ix31 q; cases q
        | succ n ih29 =>
          intro x30 x31 ix30 ix31 q
          obtain ⟨o29, h, hk29⟩ := lp_step q
          replace h : m_X12_tellPlain_L44 σ23 σ x30 x31 = some o29 := h
          unfold m_X12_tellPlain_L44 at h
          refine g_iload C dX12_tellPlain_44 rfl ?_
          refine g_if_lt C dX12_tellPlain_46 ix31 rfl (tgt := 83) (fun c32 => ?_) (fun c32 => ?_)
          · have h := ifT c32 h
            refine g_mask [true, true, true, true, false] ?_
            obtain rfl := Option.some.inj h
            exact hX29 x30 ix30 (lpR hk29).symm
          · have h := ifF c32 h
            refine g_aload_n C dX12_tellPlain_49 rfl ?_
            refine g_getR (j := 20) C dX12_tellPlain_50 rfl (Nat.le_of_ble_eq_true rfl) (Nat.le_of_ble_eq_true rfl) fl_12_43 rfl rfl (r := 179) rfl ?_
            refine g_bipush C dX12_tellPlain_53 rfl ?_
            refine g_aload_n C dX12_tellPlain_55 rfl ?_
            refine g_getI (j := 18) C dX12_tellPlain_56 rfl (Nat.le_of_ble_eq_true rfl) (Nat.le_of_ble_eq_true rfl) fl_12_286 rfl rfl (fun i33 => ?_)
            refine g_imul C dX12_tellPlain_59 ?_
            refine g_iload C dX12_tellPlain_60 rfl ?_
            refine g_iadd C dX12_tellPlain_62 ?_
            obtain ⟨x34, qx34, h⟩ := bnd h
            refine g_lald C dX12_tellPlain_63 rfl rfl qx34 (iwr _) (fun ix34 => ?_)
            refine g_aload_n C dX12_tellPlain_64 rfl ?_
            refine g_getR (j := 8) C dX12_tellPlain_65 rfl (Nat.le_of_ble_eq_true rfl) (Nat.le_of_ble_eq_true rfl) fl_12_30 rfl rfl (r := 176) rfl ?_
            refine g_iload_n C dX12_tellPlain_68 rfl ?_
            obtain ⟨x35, qx35, h⟩ := bnd h
            refine g_lald C dX12_tellPlain_69 rfl rfl qx35 i21 (fun ix35 => ?_)
            refine g_lcmp C dX12_tellPlain_70 ix34 ix35 ?_
            refine g_if_ne C dX12_tellPlain_71 (ilcI _ _) rfl (tgt := 77) (fun c36 => ?_) (fun c36 => ?_)
            · have h := ifF c36 h
              refine g_iinc (L1 := [some (rv w 170), none, some (iv (σ 170 11)), some (iv x30), some (iv (wr (x31 + (-1))))]) C dX12_tellPlain_77 rfl rfl (Nat.le_of_ble_eq_true rfl) rfl ?_
              refine g_goto C dX12_tellPlain_80 rfl (tgt := 44) ?_
              obtain rfl := Option.some.inj h
              exact ih29 _ _ ix30 (iwr _) (lpL hk29)
            · have h := ifT c36 h
              refine g_iload C dX12_tellPlain_74 rfl ?_
              refine g_istore_n (L1 := [some (rv w 170), none, some (iv (σ 170 11)), some (iv x31), some (iv x31)]) C dX12_tellPlain_76 rfl (Nat.le_of_ble_eq_true rfl) rfl ?_
              refine g_iinc (L1 := [some (rv w 170), none, some (iv (σ 170 11)), some (iv x31), some (iv (wr (x31 + (-1))))]) C dX12_tellPlain_77 rfl rfl (Nat.le_of_ble_eq_true rfl) rfl ?_
              refine g_goto C dX12_tellPlain_80 rfl (tgt := 44) ?_
              obtain rfl := Option.some.inj h
              exact ih29 _ _ ix31 (iwr _) (lpL hk29)
      exact hL29 FU _ _ (by decide) ix28 hb29
    · have h := ifF c25 h
      exact g_vretP C dX12_tellPlain_28 hr hlk h
theorem dX12_tellDeed_0 : decode cX12_tellDeed 0 = .ok (.aload_n 0, 1) := by decide +kernel
theorem dX12_tellDeed_1 : decode cX12_tellDeed 1 = .ok (.getfield 20, 3) := by decide +kernel
theorem dX12_tellDeed_4 : decode cX12_tellDeed 4 = .ok (.aload_n 0, 1) := by decide +kernel
theorem dX12_tellDeed_5 : decode cX12_tellDeed 5 = .ok (.getfield 259, 3) := by decide +kernel
theorem dX12_tellDeed_8 : decode cX12_tellDeed 8 = .ok (.iaload, 1) := by decide +kernel
theorem dX12_tellDeed_9 : decode cX12_tellDeed 9 = .ok (.istore_n 1, 1) := by decide +kernel
theorem dX12_tellDeed_10 : decode cX12_tellDeed 10 = .ok (.aload_n 0, 1) := by decide +kernel
theorem dX12_tellDeed_11 : decode cX12_tellDeed 11 = .ok (.bipush 21, 2) := by decide +kernel
theorem dX12_tellDeed_13 : decode cX12_tellDeed 13 = .ok (.invokevirtual 274, 3) := by decide +kernel
theorem dX12_tellDeed_16 : decode cX12_tellDeed 16 = .ok (.ifCond .eq 12, 3) := by decide +kernel
theorem dX12_tellDeed_19 : decode cX12_tellDeed 19 = .ok (.aload_n 0, 1) := by decide +kernel
theorem dX12_tellDeed_20 : decode cX12_tellDeed 20 = .ok (.invokevirtual 277, 3) := by decide +kernel
theorem dX12_tellDeed_23 : decode cX12_tellDeed 23 = .ok (.aload_n 0, 1) := by decide +kernel
theorem dX12_tellDeed_24 : decode cX12_tellDeed 24 = .ok (.invokevirtual 308, 3) := by decide +kernel
theorem dX12_tellDeed_27 : decode cX12_tellDeed 27 = .ok (.return_, 1) := by decide +kernel
theorem dX12_tellDeed_28 : decode cX12_tellDeed 28 = .ok (.aload_n 0, 1) := by decide +kernel
theorem dX12_tellDeed_29 : decode cX12_tellDeed 29 = .ok (.getfield 61, 3) := by decide +kernel
theorem dX12_tellDeed_32 : decode cX12_tellDeed 32 = .ok (.aload_n 0, 1) := by decide +kernel
theorem dX12_tellDeed_33 : decode cX12_tellDeed 33 = .ok (.getfield 302, 3) := by decide +kernel
theorem dX12_tellDeed_36 : decode cX12_tellDeed 36 = .ok (.iconst 1, 1) := by decide +kernel
theorem dX12_tellDeed_37 : decode cX12_tellDeed 37 = .ok (.isub, 1) := by decide +kernel
theorem dX12_tellDeed_38 : decode cX12_tellDeed 38 = .ok (.iaload, 1) := by decide +kernel
theorem dX12_tellDeed_39 : decode cX12_tellDeed 39 = .ok (.iconst 2, 1) := by decide +kernel
theorem dX12_tellDeed_40 : decode cX12_tellDeed 40 = .ok (.if_icmp .eq 18, 3) := by decide +kernel
theorem dX12_tellDeed_43 : decode cX12_tellDeed 43 = .ok (.aload_n 0, 1) := by decide +kernel
theorem dX12_tellDeed_44 : decode cX12_tellDeed 44 = .ok (.getfield 61, 3) := by decide +kernel
theorem dX12_tellDeed_47 : decode cX12_tellDeed 47 = .ok (.aload_n 0, 1) := by decide +kernel
theorem dX12_tellDeed_48 : decode cX12_tellDeed 48 = .ok (.getfield 302, 3) := by decide +kernel
theorem dX12_tellDeed_51 : decode cX12_tellDeed 51 = .ok (.iconst 1, 1) := by decide +kernel
theorem dX12_tellDeed_52 : decode cX12_tellDeed 52 = .ok (.isub, 1) := by decide +kernel
theorem dX12_tellDeed_53 : decode cX12_tellDeed 53 = .ok (.iaload, 1) := by decide +kernel
theorem dX12_tellDeed_54 : decode cX12_tellDeed 54 = .ok (.iconst 3, 1) := by decide +kernel
theorem dX12_tellDeed_55 : decode cX12_tellDeed 55 = .ok (.if_icmp .ne 7, 3) := by decide +kernel
theorem dX12_tellDeed_58 : decode cX12_tellDeed 58 = .ok (.iconst 1, 1) := by decide +kernel
theorem dX12_tellDeed_59 : decode cX12_tellDeed 59 = .ok (.goto 4, 3) := by decide +kernel
theorem dX12_tellDeed_62 : decode cX12_tellDeed 62 = .ok (.iconst 0, 1) := by decide +kernel
theorem dX12_tellDeed_63 : decode cX12_tellDeed 63 = .ok (.istore_n 2, 1) := by decide +kernel
theorem dX12_tellDeed_64 : decode cX12_tellDeed 64 = .ok (.aload_n 0, 1) := by decide +kernel
theorem dX12_tellDeed_65 : decode cX12_tellDeed 65 = .ok (.bipush 36, 2) := by decide +kernel
theorem dX12_tellDeed_67 : decode cX12_tellDeed 67 = .ok (.invokevirtual 274, 3) := by decide +kernel
theorem dX12_tellDeed_70 : decode cX12_tellDeed 70 = .ok (.ifCond .eq 16, 3) := by decide +kernel
theorem dX12_tellDeed_73 : decode cX12_tellDeed 73 = .ok (.iload_n 2, 1) := by decide +kernel
theorem dX12_tellDeed_74 : decode cX12_tellDeed 74 = .ok (.ifCond .eq 12, 3) := by decide +kernel
theorem dX12_tellDeed_77 : decode cX12_tellDeed 77 = .ok (.aload_n 0, 1) := by decide +kernel
theorem dX12_tellDeed_78 : decode cX12_tellDeed 78 = .ok (.invokevirtual 277, 3) := by decide +kernel
theorem dX12_tellDeed_81 : decode cX12_tellDeed 81 = .ok (.aload_n 0, 1) := by decide +kernel
theorem dX12_tellDeed_82 : decode cX12_tellDeed 82 = .ok (.invokevirtual 311, 3) := by decide +kernel
theorem dX12_tellDeed_85 : decode cX12_tellDeed 85 = .ok (.return_, 1) := by decide +kernel
theorem dX12_tellDeed_86 : decode cX12_tellDeed 86 = .ok (.aload_n 0, 1) := by decide +kernel
theorem dX12_tellDeed_87 : decode cX12_tellDeed 87 = .ok (.bipush 34, 2) := by decide +kernel
theorem dX12_tellDeed_89 : decode cX12_tellDeed 89 = .ok (.invokevirtual 274, 3) := by decide +kernel
theorem dX12_tellDeed_92 : decode cX12_tellDeed 92 = .ok (.ifCond .ne 21, 3) := by decide +kernel
theorem dX12_tellDeed_95 : decode cX12_tellDeed 95 = .ok (.aload_n 0, 1) := by decide +kernel
theorem dX12_tellDeed_96 : decode cX12_tellDeed 96 = .ok (.bipush 35, 2) := by decide +kernel
theorem dX12_tellDeed_98 : decode cX12_tellDeed 98 = .ok (.invokevirtual 274, 3) := by decide +kernel
theorem dX12_tellDeed_101 : decode cX12_tellDeed 101 = .ok (.ifCond .ne 12, 3) := by decide +kernel
theorem dX12_tellDeed_104 : decode cX12_tellDeed 104 = .ok (.aload_n 0, 1) := by decide +kernel
theorem dX12_tellDeed_105 : decode cX12_tellDeed 105 = .ok (.bipush 37, 2) := by decide +kernel
theorem dX12_tellDeed_107 : decode cX12_tellDeed 107 = .ok (.invokevirtual 274, 3) := by decide +kernel
theorem dX12_tellDeed_110 : decode cX12_tellDeed 110 = .ok (.ifCond .eq 7, 3) := by decide +kernel
theorem dX12_tellDeed_113 : decode cX12_tellDeed 113 = .ok (.iconst 1, 1) := by decide +kernel
theorem dX12_tellDeed_114 : decode cX12_tellDeed 114 = .ok (.goto 4, 3) := by decide +kernel
theorem dX12_tellDeed_117 : decode cX12_tellDeed 117 = .ok (.iconst 0, 1) := by decide +kernel
theorem dX12_tellDeed_118 : decode cX12_tellDeed 118 = .ok (.istore_n 3, 1) := by decide +kernel
theorem dX12_tellDeed_119 : decode cX12_tellDeed 119 = .ok (.iload_n 3, 1) := by decide +kernel
theorem dX12_tellDeed_120 : decode cX12_tellDeed 120 = .ok (.ifCond .ne 23, 3) := by decide +kernel
theorem dX12_tellDeed_123 : decode cX12_tellDeed 123 = .ok (.iload_n 1, 1) := by decide +kernel
theorem dX12_tellDeed_124 : decode cX12_tellDeed 124 = .ok (.bipush 22, 2) := by decide +kernel
theorem dX12_tellDeed_126 : decode cX12_tellDeed 126 = .ok (.if_icmp .lt 9, 3) := by decide +kernel
theorem dX12_tellDeed_129 : decode cX12_tellDeed 129 = .ok (.iload_n 1, 1) := by decide +kernel
theorem dX12_tellDeed_130 : decode cX12_tellDeed 130 = .ok (.bipush 33, 2) := by decide +kernel
theorem dX12_tellDeed_132 : decode cX12_tellDeed 132 = .ok (.if_icmp .le 11, 3) := by decide +kernel
theorem dX12_tellDeed_135 : decode cX12_tellDeed 135 = .ok (.aload_n 0, 1) := by decide +kernel
theorem dX12_tellDeed_136 : decode cX12_tellDeed 136 = .ok (.iconst 1, 1) := by decide +kernel
theorem dX12_tellDeed_137 : decode cX12_tellDeed 137 = .ok (.invokevirtual 271, 3) := by decide +kernel
theorem dX12_tellDeed_140 : decode cX12_tellDeed 140 = .ok (.goto 21, 3) := by decide +kernel
theorem dX12_tellDeed_143 : decode cX12_tellDeed 143 = .ok (.iload_n 3, 1) := by decide +kernel
theorem dX12_tellDeed_144 : decode cX12_tellDeed 144 = .ok (.ifCond .eq 17, 3) := by decide +kernel
theorem dX12_tellDeed_147 : decode cX12_tellDeed 147 = .ok (.aload_n 0, 1) := by decide +kernel
theorem dX12_tellDeed_148 : decode cX12_tellDeed 148 = .ok (.getfield 302, 3) := by decide +kernel
theorem dX12_tellDeed_151 : decode cX12_tellDeed 151 = .ok (.bipush 7, 2) := by decide +kernel
theorem dX12_tellDeed_153 : decode cX12_tellDeed 153 = .ok (.if_icmp .ne 8, 3) := by decide +kernel
theorem dX12_tellDeed_156 : decode cX12_tellDeed 156 = .ok (.aload_n 0, 1) := by decide +kernel
theorem dX12_tellDeed_157 : decode cX12_tellDeed 157 = .ok (.iconst 2, 1) := by decide +kernel
theorem dX12_tellDeed_158 : decode cX12_tellDeed 158 = .ok (.invokevirtual 271, 3) := by decide +kernel
theorem dX12_tellDeed_161 : decode cX12_tellDeed 161 = .ok (.aload_n 0, 1) := by decide +kernel
theorem dX12_tellDeed_162 : decode cX12_tellDeed 162 = .ok (.getfield 256, 3) := by decide +kernel
theorem dX12_tellDeed_165 : decode cX12_tellDeed 165 = .ok (.ifCond .le 4, 3) := by decide +kernel
theorem dX12_tellDeed_168 : decode cX12_tellDeed 168 = .ok (.return_, 1) := by decide +kernel
theorem dX12_tellDeed_169 : decode cX12_tellDeed 169 = .ok (.aload_n 0, 1) := by decide +kernel
theorem dX12_tellDeed_170 : decode cX12_tellDeed 170 = .ok (.invokevirtual 277, 3) := by decide +kernel
theorem dX12_tellDeed_173 : decode cX12_tellDeed 173 = .ok (.iload_n 1, 1) := by decide +kernel
theorem dX12_tellDeed_174 : decode cX12_tellDeed 174 = .ok (.bipush 34, 2) := by decide +kernel
theorem dX12_tellDeed_176 : decode cX12_tellDeed 176 = .ok (.if_icmp .ne 24, 3) := by decide +kernel
theorem dX12_tellDeed_179 : decode cX12_tellDeed 179 = .ok (.aload_n 0, 1) := by decide +kernel
theorem dX12_tellDeed_180 : decode cX12_tellDeed 180 = .ok (.bipush 95, 2) := by decide +kernel
theorem dX12_tellDeed_182 : decode cX12_tellDeed 182 = .ok (.invokevirtual 314, 3) := by decide +kernel
theorem dX12_tellDeed_185 : decode cX12_tellDeed 185 = .ok (.istore 4, 2) := by decide +kernel
theorem dX12_tellDeed_187 : decode cX12_tellDeed 187 = .ok (.aload_n 0, 1) := by decide +kernel
theorem dX12_tellDeed_188 : decode cX12_tellDeed 188 = .ok (.iconst 1, 1) := by decide +kernel
theorem dX12_tellDeed_189 : decode cX12_tellDeed 189 = .ok (.bipush 12, 2) := by decide +kernel
theorem dX12_tellDeed_191 : decode cX12_tellDeed 191 = .ok (.iload 4, 2) := by decide +kernel
theorem dX12_tellDeed_193 : decode cX12_tellDeed 193 = .ok (.iconst 0, 1) := by decide +kernel
theorem dX12_tellDeed_194 : decode cX12_tellDeed 194 = .ok (.invokevirtual 317, 3) := by decide +kernel
theorem dX12_tellDeed_197 : decode cX12_tellDeed 197 = .ok (.goto 63, 3) := by decide +kernel
theorem dX12_tellDeed_200 : decode cX12_tellDeed 200 = .ok (.iload_n 1, 1) := by decide +kernel
theorem dX12_tellDeed_201 : decode cX12_tellDeed 201 = .ok (.bipush 35, 2) := by decide +kernel
theorem dX12_tellDeed_203 : decode cX12_tellDeed 203 = .ok (.if_icmp .ne 10, 3) := by decide +kernel
theorem dX12_tellDeed_206 : decode cX12_tellDeed 206 = .ok (.aload_n 0, 1) := by decide +kernel
theorem dX12_tellDeed_207 : decode cX12_tellDeed 207 = .ok (.invokevirtual 321, 3) := by decide +kernel
theorem dX12_tellDeed_210 : decode cX12_tellDeed 210 = .ok (.goto 50, 3) := by decide +kernel
theorem dX12_tellDeed_213 : decode cX12_tellDeed 213 = .ok (.iload_n 1, 1) := by decide +kernel
theorem dX12_tellDeed_214 : decode cX12_tellDeed 214 = .ok (.bipush 37, 2) := by decide +kernel
theorem dX12_tellDeed_216 : decode cX12_tellDeed 216 = .ok (.if_icmp .ne 39, 3) := by decide +kernel
theorem dX12_tellDeed_219 : decode cX12_tellDeed 219 = .ok (.aload_n 0, 1) := by decide +kernel
theorem dX12_tellDeed_220 : decode cX12_tellDeed 220 = .ok (.bipush 7, 2) := by decide +kernel
theorem dX12_tellDeed_222 : decode cX12_tellDeed 222 = .ok (.invokevirtual 314, 3) := by decide +kernel
theorem dX12_tellDeed_225 : decode cX12_tellDeed 225 = .ok (.istore 4, 2) := by decide +kernel
theorem dX12_tellDeed_227 : decode cX12_tellDeed 227 = .ok (.aload_n 0, 1) := by decide +kernel
theorem dX12_tellDeed_228 : decode cX12_tellDeed 228 = .ok (.bipush 38, 2) := by decide +kernel
theorem dX12_tellDeed_230 : decode cX12_tellDeed 230 = .ok (.invokevirtual 295, 3) := by decide +kernel
theorem dX12_tellDeed_233 : decode cX12_tellDeed 233 = .ok (.aload_n 0, 1) := by decide +kernel
theorem dX12_tellDeed_234 : decode cX12_tellDeed 234 = .ok (.bipush 95, 2) := by decide +kernel
theorem dX12_tellDeed_236 : decode cX12_tellDeed 236 = .ok (.invokevirtual 314, 3) := by decide +kernel
theorem dX12_tellDeed_239 : decode cX12_tellDeed 239 = .ok (.istore 5, 2) := by decide +kernel
theorem dX12_tellDeed_241 : decode cX12_tellDeed 241 = .ok (.aload_n 0, 1) := by decide +kernel
theorem dX12_tellDeed_242 : decode cX12_tellDeed 242 = .ok (.iconst 3, 1) := by decide +kernel
theorem dX12_tellDeed_243 : decode cX12_tellDeed 243 = .ok (.bipush 16, 2) := by decide +kernel
theorem dX12_tellDeed_245 : decode cX12_tellDeed 245 = .ok (.iload 4, 2) := by decide +kernel
theorem dX12_tellDeed_247 : decode cX12_tellDeed 247 = .ok (.iload 5, 2) := by decide +kernel
theorem dX12_tellDeed_249 : decode cX12_tellDeed 249 = .ok (.invokevirtual 317, 3) := by decide +kernel
theorem dX12_tellDeed_252 : decode cX12_tellDeed 252 = .ok (.goto 8, 3) := by decide +kernel
theorem dX12_tellDeed_255 : decode cX12_tellDeed 255 = .ok (.aload_n 0, 1) := by decide +kernel
theorem dX12_tellDeed_256 : decode cX12_tellDeed 256 = .ok (.iload_n 1, 1) := by decide +kernel
theorem dX12_tellDeed_257 : decode cX12_tellDeed 257 = .ok (.invokevirtual 324, 3) := by decide +kernel
theorem dX12_tellDeed_260 : decode cX12_tellDeed 260 = .ok (.return_, 1) := by decide +kernel
abbrev rm_X12_tellDeed : Room := { frames := 5, cells := 0, slots := 0, locals := 109 }
set_option maxRecDepth 100000 in
set_option maxHeartbeats 4000000 in
theorem ct_X12_tellDeed {w : Wd} {l : Launch} {σ : St} {σ' : St} (h : m_X12_tellDeed σ = some σ') : Ct w l yX12_tellDeed (Cond.code yX12_tellDeed cX12_tellDeed 6 none :: TB) rm_X12_tellDeed [rv w 170] σ none True σ' := by
  refine Ct.of2 [some (rv w 170), none, none, none, none, none] 5 rfl pn_RX12 (Nat.le_of_ble_eq_true rfl) ?_
  intro p e s m args below meth c C hr hlk
  unfold m_X12_tellDeed at h
  refine g_aload_n C dX12_tellDeed_0 rfl ?_
  refine g_getR (j := 5) C dX12_tellDeed_1 rfl (Nat.le_of_ble_eq_true rfl) (Nat.le_of_ble_eq_true rfl) fl_12_20 rfl rfl (r := 173) rfl ?_
  refine g_aload_n C dX12_tellDeed_4 rfl ?_
  refine g_getI (j := 11) C dX12_tellDeed_5 rfl (Nat.le_of_ble_eq_true rfl) (Nat.le_of_ble_eq_true rfl) fl_12_259 rfl rfl (fun i1 => ?_)
  obtain ⟨x2, qx2, h⟩ := bnd h
  refine g_iald C dX12_tellDeed_8 rfl rfl qx2 i1 (fun ix2 => ?_)
  refine g_istore_n (L1 := [some (rv w 170), some (iv x2), none, none, none, none]) C dX12_tellDeed_9 rfl (Nat.le_of_ble_eq_true rfl) rfl ?_
  refine g_aload_n C dX12_tellDeed_10 rfl ?_
  refine g_bipush C dX12_tellDeed_11 rfl ?_
  obtain ⟨x3, qx3, h⟩ := bnd h
  refine g_callV1 (As := [iv 21]) C dX12_tellDeed_13 mi_X12_is ml_12_274 (ct_X12_is (by decide) qx3) rfl rfl ⟨rfl, rfl⟩ ⟨Nat.le_of_ble_eq_true rfl, Nat.le_of_ble_eq_true rfl⟩ ⟨Nat.zero_le _, Nat.zero_le _⟩ rfl (Nat.le_of_ble_eq_true rfl) (fun ix3 => ?_)
  refine g_if_eq C dX12_tellDeed_16 (zI ix3) rfl (tgt := 28) (fun c4 => ?_) (fun c4 => ?_)
  · have h := ifT c4 h
    refine g_aload_n C dX12_tellDeed_28 rfl ?_
    refine g_getR (j := 28) C dX12_tellDeed_29 rfl (Nat.le_of_ble_eq_true rfl) (Nat.le_of_ble_eq_true rfl) fl_12_61 rfl rfl (r := 185) rfl ?_
    refine g_aload_n C dX12_tellDeed_32 rfl ?_
    refine g_getI (j := 27) C dX12_tellDeed_33 rfl (Nat.le_of_ble_eq_true rfl) (Nat.le_of_ble_eq_true rfl) fl_12_302 rfl rfl (fun i5 => ?_)
    refine g_iconst C dX12_tellDeed_36 ?_
    refine g_isub C dX12_tellDeed_37 ?_
    obtain ⟨x6, qx6, h⟩ := bnd h
    refine g_iald C dX12_tellDeed_38 rfl rfl qx6 (iwr _) (fun ix6 => ?_)
    refine g_iconst C dX12_tellDeed_39 ?_
    have hJ58_165 : m_X12_tellDeed_J58 σ x2 = some σ' → GM w p l e rm_X12_tellDeed s m args below meth c none True σ' 6 58 [some (rv w 170), some (iv x2), none, none, none, none] [] σ := by
      intro h
      unfold m_X12_tellDeed_J58 at h
      refine g_iconst C dX12_tellDeed_58 ?_
      refine g_goto C dX12_tellDeed_59 rfl (tgt := 63) ?_
      refine g_istore_n (L1 := [some (rv w 170), some (iv x2), some (iv 1), none, none, none]) C dX12_tellDeed_63 rfl (Nat.le_of_ble_eq_true rfl) rfl ?_
      refine g_aload_n C dX12_tellDeed_64 rfl ?_
      refine g_bipush C dX12_tellDeed_65 rfl ?_
      obtain ⟨x86, qx86, h⟩ := bnd h
      refine g_callV1 (As := [iv 36]) C dX12_tellDeed_67 mi_X12_is ml_12_274 (ct_X12_is (by decide) qx86) rfl rfl ⟨rfl, rfl⟩ ⟨Nat.le_of_ble_eq_true rfl, Nat.le_of_ble_eq_true rfl⟩ ⟨Nat.zero_le _, Nat.zero_le _⟩ rfl (Nat.le_of_ble_eq_true rfl) (fun ix86 => ?_)
      refine g_if_eq C dX12_tellDeed_70 (zI ix86) rfl (tgt := 86) (fun c87 => ?_) (fun c87 => ?_)
      · have h := ifT c87 h
        refine g_mask [true, true, false, true, true, true] ?_
        refine g_aload_n C dX12_tellDeed_86 rfl ?_
        refine g_bipush C dX12_tellDeed_87 rfl ?_
        obtain ⟨x91, qx91, h⟩ := bnd h
        refine g_callV1 (As := [iv 34]) C dX12_tellDeed_89 mi_X12_is ml_12_274 (ct_X12_is (by decide) qx91) rfl rfl ⟨rfl, rfl⟩ ⟨Nat.le_of_ble_eq_true rfl, Nat.le_of_ble_eq_true rfl⟩ ⟨Nat.zero_le _, Nat.zero_le _⟩ rfl (Nat.le_of_ble_eq_true rfl) (fun ix91 => ?_)
        have hJ113_164 : m_X12_tellDeed_J113_163 σ x2 = some σ' → GM w p l e rm_X12_tellDeed s m args below meth c none True σ' 6 113 [some (rv w 170), some (iv x2), none, none, none, none] [] σ := by
          intro h
          unfold m_X12_tellDeed_J113_163 at h
          refine g_iconst C dX12_tellDeed_113 ?_
          refine g_goto C dX12_tellDeed_114 rfl (tgt := 118) ?_
          refine g_istore_n (L1 := [some (rv w 170), some (iv x2), none, some (iv 1), none, none]) C dX12_tellDeed_118 rfl (Nat.le_of_ble_eq_true rfl) rfl ?_
          refine g_iload_n C dX12_tellDeed_119 rfl ?_
          refine g_if_ne C dX12_tellDeed_120 (by decide) rfl (tgt := 143) (fun c138 => ?_) (fun c138 => absurd c138 (by decide))
          refine g_iload_n C dX12_tellDeed_143 rfl ?_
          refine g_if_eq C dX12_tellDeed_144 (by decide) rfl (tgt := 161) (fun c139 => absurd c139 (by decide)) (fun c139 => ?_)
          refine g_aload_n C dX12_tellDeed_147 rfl ?_
          refine g_getI (j := 27) C dX12_tellDeed_148 rfl (Nat.le_of_ble_eq_true rfl) (Nat.le_of_ble_eq_true rfl) fl_12_302 rfl rfl (fun i140 => ?_)
          refine g_bipush C dX12_tellDeed_151 rfl ?_
          have hJ161_162 : ∀ (σ143 : St) , m_X12_tellDeed_J161_161 x2 σ143 = some σ' → GM w p l e rm_X12_tellDeed s m args below meth c none True σ' 6 161 [some (rv w 170), some (iv x2), none, none, none, none] [] σ143 := by
            intro σ143 h
            unfold m_X12_tellDeed_J161_161 at h
            refine g_aload_n C dX12_tellDeed_161 rfl ?_
            refine g_getI (j := 12) C dX12_tellDeed_162 rfl (Nat.le_of_ble_eq_true rfl) (Nat.le_of_ble_eq_true rfl) fl_12_256 rfl rfl (fun i144 => ?_)
            refine g_if_le C dX12_tellDeed_165 i144 rfl (tgt := 169) (fun c145 => ?_) (fun c145 => ?_)
            · have h := ifT c145 h
              refine g_aload_n C dX12_tellDeed_169 rfl ?_
              obtain ⟨σ146, qσ146, h⟩ := bnd h
              refine g_callV0 (As := []) C dX12_tellDeed_170 mi_X12_next ml_12_277 (ct_X12_next qσ146) rfl rfl ⟨rfl, rfl⟩ ⟨Nat.le_of_ble_eq_true rfl, Nat.le_of_ble_eq_true rfl⟩ ⟨Nat.zero_le _, Nat.zero_le _⟩ rfl (Nat.le_of_ble_eq_true rfl) (fun _ => ?_)
              refine g_iload_n C dX12_tellDeed_173 rfl ?_
              refine g_bipush C dX12_tellDeed_174 rfl ?_
              refine g_icmp_ne C dX12_tellDeed_176 ix2 (by decide) rfl (tgt := 200) (fun c147 => ?_) (fun c147 => ?_)
              · have h := ifF c147 h
                refine g_iload_n C dX12_tellDeed_200 rfl ?_
                refine g_bipush C dX12_tellDeed_201 rfl ?_
                refine g_icmp_ne C dX12_tellDeed_203 ix2 (by decide) rfl (tgt := 213) (fun c148 => ?_) (fun c148 => ?_)
                · have h := ifF c148 h
                  refine g_iload_n C dX12_tellDeed_213 rfl ?_
                  refine g_bipush C dX12_tellDeed_214 rfl ?_
                  refine g_icmp_ne C dX12_tellDeed_216 ix2 (by decide) rfl (tgt := 255) (fun c149 => ?_) (fun c149 => ?_)
                  · have h := ifF c149 h
                    refine g_aload_n C dX12_tellDeed_255 rfl ?_
                    refine g_iload_n C dX12_tellDeed_256 rfl ?_
                    obtain ⟨σ150, qσ150, h⟩ := bnd h
                    refine g_callV0 (As := [iv x2]) C dX12_tellDeed_257 mi_X12_tellPlain ml_12_324 (ct_X12_tellPlain ix2 qσ150) rfl rfl ⟨rfl, rfl⟩ ⟨Nat.le_of_ble_eq_true rfl, Nat.le_of_ble_eq_true rfl⟩ ⟨Nat.zero_le _, Nat.zero_le _⟩ rfl (Nat.le_of_ble_eq_true rfl) (fun _ => ?_)
                    exact g_vretP C dX12_tellDeed_260 hr hlk h
                  · have h := ifT c149 h
                    refine g_aload_n C dX12_tellDeed_219 rfl ?_
                    refine g_bipush C dX12_tellDeed_220 rfl ?_
                    obtain ⟨⟨x151, σ152⟩, qx151, h⟩ := bnd h
                    refine g_callV1 (As := [iv 7]) C dX12_tellDeed_222 mi_X12_number ml_12_314 (ct_X12_number (by decide) qx151) rfl rfl ⟨rfl, rfl⟩ ⟨Nat.le_of_ble_eq_true rfl, Nat.le_of_ble_eq_true rfl⟩ ⟨Nat.zero_le _, Nat.zero_le _⟩ rfl (Nat.le_of_ble_eq_true rfl) (fun ix151 => ?_)
                    refine g_istore (L1 := [some (rv w 170), some (iv x2), none, none, some (iv x151), none]) C dX12_tellDeed_225 rfl (Nat.le_of_ble_eq_true rfl) rfl ?_
                    refine g_aload_n C dX12_tellDeed_227 rfl ?_
                    refine g_bipush C dX12_tellDeed_228 rfl ?_
                    obtain ⟨σ153, qσ153, h⟩ := bnd h
                    refine g_callV0 (As := [iv 38]) C dX12_tellDeed_230 mi_X12_must ml_12_295 (ct_X12_must (by decide) qσ153) rfl rfl ⟨rfl, rfl⟩ ⟨Nat.le_of_ble_eq_true rfl, Nat.le_of_ble_eq_true rfl⟩ ⟨Nat.zero_le _, Nat.zero_le _⟩ rfl (Nat.le_of_ble_eq_true rfl) (fun _ => ?_)
                    refine g_aload_n C dX12_tellDeed_233 rfl ?_
                    refine g_bipush C dX12_tellDeed_234 rfl ?_
                    obtain ⟨⟨x154, σ155⟩, qx154, h⟩ := bnd h
                    refine g_callV1 (As := [iv 95]) C dX12_tellDeed_236 mi_X12_number ml_12_314 (ct_X12_number (by decide) qx154) rfl rfl ⟨rfl, rfl⟩ ⟨Nat.le_of_ble_eq_true rfl, Nat.le_of_ble_eq_true rfl⟩ ⟨Nat.zero_le _, Nat.zero_le _⟩ rfl (Nat.le_of_ble_eq_true rfl) (fun ix154 => ?_)
                    refine g_istore (L1 := [some (rv w 170), some (iv x2), none, none, some (iv x151), some (iv x154)]) C dX12_tellDeed_239 rfl (Nat.le_of_ble_eq_true rfl) rfl ?_
                    refine g_aload_n C dX12_tellDeed_241 rfl ?_
                    refine g_iconst C dX12_tellDeed_242 ?_
                    refine g_bipush C dX12_tellDeed_243 rfl ?_
                    refine g_iload C dX12_tellDeed_245 rfl ?_
                    refine g_iload C dX12_tellDeed_247 rfl ?_
                    obtain ⟨σ156, qσ156, h⟩ := bnd h
                    refine g_callV0 (As := [iv 3, iv 16, iv x151, iv x154]) C dX12_tellDeed_249 mi_X12_opens ml_12_317 (ct_X12_opens (by decide) (by decide) ix151 ix154 qσ156) rfl rfl ⟨rfl, rfl⟩ ⟨Nat.le_of_ble_eq_true rfl, Nat.le_of_ble_eq_true rfl⟩ ⟨Nat.zero_le _, Nat.zero_le _⟩ rfl (Nat.le_of_ble_eq_true rfl) (fun _ => ?_)
                    refine g_goto C dX12_tellDeed_252 rfl (tgt := 260) ?_
                    exact g_vretP C dX12_tellDeed_260 hr hlk h
                · have h := ifT c148 h
                  refine g_aload_n C dX12_tellDeed_206 rfl ?_
                  obtain ⟨σ157, qσ157, h⟩ := bnd h
                  refine g_callV0 (As := []) C dX12_tellDeed_207 mi_X12_tellTest ml_12_321 (ct_X12_tellTest qσ157) rfl rfl ⟨rfl, rfl⟩ ⟨Nat.le_of_ble_eq_true rfl, Nat.le_of_ble_eq_true rfl⟩ ⟨Nat.zero_le _, Nat.zero_le _⟩ rfl (Nat.le_of_ble_eq_true rfl) (fun _ => ?_)
                  refine g_goto C dX12_tellDeed_210 rfl (tgt := 260) ?_
                  exact g_vretP C dX12_tellDeed_260 hr hlk h
              · have h := ifT c147 h
                refine g_aload_n C dX12_tellDeed_179 rfl ?_
                refine g_bipush C dX12_tellDeed_180 rfl ?_
                obtain ⟨⟨x158, σ159⟩, qx158, h⟩ := bnd h
                refine g_callV1 (As := [iv 95]) C dX12_tellDeed_182 mi_X12_number ml_12_314 (ct_X12_number (by decide) qx158) rfl rfl ⟨rfl, rfl⟩ ⟨Nat.le_of_ble_eq_true rfl, Nat.le_of_ble_eq_true rfl⟩ ⟨Nat.zero_le _, Nat.zero_le _⟩ rfl (Nat.le_of_ble_eq_true rfl) (fun ix158 => ?_)
                refine g_istore (L1 := [some (rv w 170), some (iv x2), none, none, some (iv x158), none]) C dX12_tellDeed_185 rfl (Nat.le_of_ble_eq_true rfl) rfl ?_
                refine g_aload_n C dX12_tellDeed_187 rfl ?_
                refine g_iconst C dX12_tellDeed_188 ?_
                refine g_bipush C dX12_tellDeed_189 rfl ?_
                refine g_iload C dX12_tellDeed_191 rfl ?_
                refine g_iconst C dX12_tellDeed_193 ?_
                obtain ⟨σ160, qσ160, h⟩ := bnd h
                refine g_callV0 (As := [iv 1, iv 12, iv x158, iv 0]) C dX12_tellDeed_194 mi_X12_opens ml_12_317 (ct_X12_opens (by decide) (by decide) ix158 (by decide) qσ160) rfl rfl ⟨rfl, rfl⟩ ⟨Nat.le_of_ble_eq_true rfl, Nat.le_of_ble_eq_true rfl⟩ ⟨Nat.zero_le _, Nat.zero_le _⟩ rfl (Nat.le_of_ble_eq_true rfl) (fun _ => ?_)
                refine g_goto C dX12_tellDeed_197 rfl (tgt := 260) ?_
                exact g_vretP C dX12_tellDeed_260 hr hlk h
            · have h := ifF c145 h
              exact g_vretP C dX12_tellDeed_168 hr hlk h
          refine g_icmp_ne C dX12_tellDeed_153 i140 (by decide) rfl (tgt := 161) (fun c141 => ?_) (fun c141 => ?_)
          · have h := ifF c141 h
            refine g_mask [true, true, true, false, true, true] ?_
            exact hJ161_162 σ h
          · have h := ifT c141 h
            refine g_aload_n C dX12_tellDeed_156 rfl ?_
            refine g_iconst C dX12_tellDeed_157 ?_
            obtain ⟨σ142, qσ142, h⟩ := bnd h
            refine g_callV0 (As := [iv 2]) C dX12_tellDeed_158 mi_X12_fail ml_12_271 (ct_X12_fail (by decide) qσ142) rfl rfl ⟨rfl, rfl⟩ ⟨Nat.le_of_ble_eq_true rfl, Nat.le_of_ble_eq_true rfl⟩ ⟨Nat.zero_le _, Nat.zero_le _⟩ rfl (Nat.le_of_ble_eq_true rfl) (fun _ => ?_)
            refine g_mask [true, true, true, false, true, true] ?_
            exact hJ161_162 σ142 h
        refine g_if_ne C dX12_tellDeed_92 (zI ix91) rfl (tgt := 113) (fun c92 => ?_) (fun c92 => ?_)
        · have h := ifF c92 h
          exact hJ113_164  h
        · have h := ifT c92 h
          refine g_aload_n C dX12_tellDeed_95 rfl ?_
          refine g_bipush C dX12_tellDeed_96 rfl ?_
          obtain ⟨x93, qx93, h⟩ := bnd h
          refine g_callV1 (As := [iv 35]) C dX12_tellDeed_98 mi_X12_is ml_12_274 (ct_X12_is (by decide) qx93) rfl rfl ⟨rfl, rfl⟩ ⟨Nat.le_of_ble_eq_true rfl, Nat.le_of_ble_eq_true rfl⟩ ⟨Nat.zero_le _, Nat.zero_le _⟩ rfl (Nat.le_of_ble_eq_true rfl) (fun ix93 => ?_)
          refine g_if_ne C dX12_tellDeed_101 (zI ix93) rfl (tgt := 113) (fun c94 => ?_) (fun c94 => ?_)
          · have h := ifF c94 h
            exact hJ113_164  h
          · have h := ifT c94 h
            refine g_aload_n C dX12_tellDeed_104 rfl ?_
            refine g_bipush C dX12_tellDeed_105 rfl ?_
            obtain ⟨x95, qx95, h⟩ := bnd h
            refine g_callV1 (As := [iv 37]) C dX12_tellDeed_107 mi_X12_is ml_12_274 (ct_X12_is (by decide) qx95) rfl rfl ⟨rfl, rfl⟩ ⟨Nat.le_of_ble_eq_true rfl, Nat.le_of_ble_eq_true rfl⟩ ⟨Nat.zero_le _, Nat.zero_le _⟩ rfl (Nat.le_of_ble_eq_true rfl) (fun ix95 => ?_)
            refine g_if_eq C dX12_tellDeed_110 (zI ix95) rfl (tgt := 117) (fun c96 => ?_) (fun c96 => ?_)
            · have h := ifT c96 h
              refine g_iconst C dX12_tellDeed_117 ?_
              refine g_istore_n (L1 := [some (rv w 170), some (iv x2), none, some (iv 0), none, none]) C dX12_tellDeed_118 rfl (Nat.le_of_ble_eq_true rfl) rfl ?_
              refine g_iload_n C dX12_tellDeed_119 rfl ?_
              refine g_if_ne C dX12_tellDeed_120 (by decide) rfl (tgt := 143) (fun c97 => absurd c97 (by decide)) (fun c97 => ?_)
              refine g_iload_n C dX12_tellDeed_123 rfl ?_
              refine g_bipush C dX12_tellDeed_124 rfl ?_
              have hJ135_137 : m_X12_tellDeed_J135_136 σ x2 = some σ' → GM w p l e rm_X12_tellDeed s m args below meth c none True σ' 6 135 [some (rv w 170), some (iv x2), none, none, none, none] [] σ := by
                intro h
                unfold m_X12_tellDeed_J135_136 at h
                refine g_aload_n C dX12_tellDeed_135 rfl ?_
                refine g_iconst C dX12_tellDeed_136 ?_
                obtain ⟨σ118, qσ118, h⟩ := bnd h
                refine g_callV0 (As := [iv 1]) C dX12_tellDeed_137 mi_X12_fail ml_12_271 (ct_X12_fail (by decide) qσ118) rfl rfl ⟨rfl, rfl⟩ ⟨Nat.le_of_ble_eq_true rfl, Nat.le_of_ble_eq_true rfl⟩ ⟨Nat.zero_le _, Nat.zero_le _⟩ rfl (Nat.le_of_ble_eq_true rfl) (fun _ => ?_)
                refine g_goto C dX12_tellDeed_140 rfl (tgt := 161) ?_
                refine g_aload_n C dX12_tellDeed_161 rfl ?_
                refine g_getI (j := 12) C dX12_tellDeed_162 rfl (Nat.le_of_ble_eq_true rfl) (Nat.le_of_ble_eq_true rfl) fl_12_256 rfl rfl (fun i119 => ?_)
                refine g_if_le C dX12_tellDeed_165 i119 rfl (tgt := 169) (fun c120 => ?_) (fun c120 => ?_)
                · have h := ifT c120 h
                  refine g_aload_n C dX12_tellDeed_169 rfl ?_
                  obtain ⟨σ121, qσ121, h⟩ := bnd h
                  refine g_callV0 (As := []) C dX12_tellDeed_170 mi_X12_next ml_12_277 (ct_X12_next qσ121) rfl rfl ⟨rfl, rfl⟩ ⟨Nat.le_of_ble_eq_true rfl, Nat.le_of_ble_eq_true rfl⟩ ⟨Nat.zero_le _, Nat.zero_le _⟩ rfl (Nat.le_of_ble_eq_true rfl) (fun _ => ?_)
                  refine g_iload_n C dX12_tellDeed_173 rfl ?_
                  refine g_bipush C dX12_tellDeed_174 rfl ?_
                  refine g_icmp_ne C dX12_tellDeed_176 ix2 (by decide) rfl (tgt := 200) (fun c122 => ?_) (fun c122 => ?_)
                  · have h := ifF c122 h
                    refine g_iload_n C dX12_tellDeed_200 rfl ?_
                    refine g_bipush C dX12_tellDeed_201 rfl ?_
                    refine g_icmp_ne C dX12_tellDeed_203 ix2 (by decide) rfl (tgt := 213) (fun c123 => ?_) (fun c123 => ?_)
                    · have h := ifF c123 h
                      refine g_iload_n C dX12_tellDeed_213 rfl ?_
                      refine g_bipush C dX12_tellDeed_214 rfl ?_
                      refine g_icmp_ne C dX12_tellDeed_216 ix2 (by decide) rfl (tgt := 255) (fun c124 => ?_) (fun c124 => ?_)
                      · have h := ifF c124 h
                        refine g_aload_n C dX12_tellDeed_255 rfl ?_
                        refine g_iload_n C dX12_tellDeed_256 rfl ?_
                        obtain ⟨σ125, qσ125, h⟩ := bnd h
                        refine g_callV0 (As := [iv x2]) C dX12_tellDeed_257 mi_X12_tellPlain ml_12_324 (ct_X12_tellPlain ix2 qσ125) rfl rfl ⟨rfl, rfl⟩ ⟨Nat.le_of_ble_eq_true rfl, Nat.le_of_ble_eq_true rfl⟩ ⟨Nat.zero_le _, Nat.zero_le _⟩ rfl (Nat.le_of_ble_eq_true rfl) (fun _ => ?_)
                        exact g_vretP C dX12_tellDeed_260 hr hlk h
                      · have h := ifT c124 h
                        refine g_aload_n C dX12_tellDeed_219 rfl ?_
                        refine g_bipush C dX12_tellDeed_220 rfl ?_
                        obtain ⟨⟨x126, σ127⟩, qx126, h⟩ := bnd h
                        refine g_callV1 (As := [iv 7]) C dX12_tellDeed_222 mi_X12_number ml_12_314 (ct_X12_number (by decide) qx126) rfl rfl ⟨rfl, rfl⟩ ⟨Nat.le_of_ble_eq_true rfl, Nat.le_of_ble_eq_true rfl⟩ ⟨Nat.zero_le _, Nat.zero_le _⟩ rfl (Nat.le_of_ble_eq_true rfl) (fun ix126 => ?_)
                        refine g_istore (L1 := [some (rv w 170), some (iv x2), none, none, some (iv x126), none]) C dX12_tellDeed_225 rfl (Nat.le_of_ble_eq_true rfl) rfl ?_
                        refine g_aload_n C dX12_tellDeed_227 rfl ?_
                        refine g_bipush C dX12_tellDeed_228 rfl ?_
                        obtain ⟨σ128, qσ128, h⟩ := bnd h
                        refine g_callV0 (As := [iv 38]) C dX12_tellDeed_230 mi_X12_must ml_12_295 (ct_X12_must (by decide) qσ128) rfl rfl ⟨rfl, rfl⟩ ⟨Nat.le_of_ble_eq_true rfl, Nat.le_of_ble_eq_true rfl⟩ ⟨Nat.zero_le _, Nat.zero_le _⟩ rfl (Nat.le_of_ble_eq_true rfl) (fun _ => ?_)
                        refine g_aload_n C dX12_tellDeed_233 rfl ?_
                        refine g_bipush C dX12_tellDeed_234 rfl ?_
                        obtain ⟨⟨x129, σ130⟩, qx129, h⟩ := bnd h
                        refine g_callV1 (As := [iv 95]) C dX12_tellDeed_236 mi_X12_number ml_12_314 (ct_X12_number (by decide) qx129) rfl rfl ⟨rfl, rfl⟩ ⟨Nat.le_of_ble_eq_true rfl, Nat.le_of_ble_eq_true rfl⟩ ⟨Nat.zero_le _, Nat.zero_le _⟩ rfl (Nat.le_of_ble_eq_true rfl) (fun ix129 => ?_)
                        refine g_istore (L1 := [some (rv w 170), some (iv x2), none, none, some (iv x126), some (iv x129)]) C dX12_tellDeed_239 rfl (Nat.le_of_ble_eq_true rfl) rfl ?_
                        refine g_aload_n C dX12_tellDeed_241 rfl ?_
                        refine g_iconst C dX12_tellDeed_242 ?_
                        refine g_bipush C dX12_tellDeed_243 rfl ?_
                        refine g_iload C dX12_tellDeed_245 rfl ?_
                        refine g_iload C dX12_tellDeed_247 rfl ?_
                        obtain ⟨σ131, qσ131, h⟩ := bnd h
                        refine g_callV0 (As := [iv 3, iv 16, iv x126, iv x129]) C dX12_tellDeed_249 mi_X12_opens ml_12_317 (ct_X12_opens (by decide) (by decide) ix126 ix129 qσ131) rfl rfl ⟨rfl, rfl⟩ ⟨Nat.le_of_ble_eq_true rfl, Nat.le_of_ble_eq_true rfl⟩ ⟨Nat.zero_le _, Nat.zero_le _⟩ rfl (Nat.le_of_ble_eq_true rfl) (fun _ => ?_)
                        refine g_goto C dX12_tellDeed_252 rfl (tgt := 260) ?_
                        exact g_vretP C dX12_tellDeed_260 hr hlk h
                    · have h := ifT c123 h
                      refine g_aload_n C dX12_tellDeed_206 rfl ?_
                      obtain ⟨σ132, qσ132, h⟩ := bnd h
                      refine g_callV0 (As := []) C dX12_tellDeed_207 mi_X12_tellTest ml_12_321 (ct_X12_tellTest qσ132) rfl rfl ⟨rfl, rfl⟩ ⟨Nat.le_of_ble_eq_true rfl, Nat.le_of_ble_eq_true rfl⟩ ⟨Nat.zero_le _, Nat.zero_le _⟩ rfl (Nat.le_of_ble_eq_true rfl) (fun _ => ?_)
                      refine g_goto C dX12_tellDeed_210 rfl (tgt := 260) ?_
                      exact g_vretP C dX12_tellDeed_260 hr hlk h
                  · have h := ifT c122 h
                    refine g_aload_n C dX12_tellDeed_179 rfl ?_
                    refine g_bipush C dX12_tellDeed_180 rfl ?_
                    obtain ⟨⟨x133, σ134⟩, qx133, h⟩ := bnd h
                    refine g_callV1 (As := [iv 95]) C dX12_tellDeed_182 mi_X12_number ml_12_314 (ct_X12_number (by decide) qx133) rfl rfl ⟨rfl, rfl⟩ ⟨Nat.le_of_ble_eq_true rfl, Nat.le_of_ble_eq_true rfl⟩ ⟨Nat.zero_le _, Nat.zero_le _⟩ rfl (Nat.le_of_ble_eq_true rfl) (fun ix133 => ?_)
                    refine g_istore (L1 := [some (rv w 170), some (iv x2), none, none, some (iv x133), none]) C dX12_tellDeed_185 rfl (Nat.le_of_ble_eq_true rfl) rfl ?_
                    refine g_aload_n C dX12_tellDeed_187 rfl ?_
                    refine g_iconst C dX12_tellDeed_188 ?_
                    refine g_bipush C dX12_tellDeed_189 rfl ?_
                    refine g_iload C dX12_tellDeed_191 rfl ?_
                    refine g_iconst C dX12_tellDeed_193 ?_
                    obtain ⟨σ135, qσ135, h⟩ := bnd h
                    refine g_callV0 (As := [iv 1, iv 12, iv x133, iv 0]) C dX12_tellDeed_194 mi_X12_opens ml_12_317 (ct_X12_opens (by decide) (by decide) ix133 (by decide) qσ135) rfl rfl ⟨rfl, rfl⟩ ⟨Nat.le_of_ble_eq_true rfl, Nat.le_of_ble_eq_true rfl⟩ ⟨Nat.zero_le _, Nat.zero_le _⟩ rfl (Nat.le_of_ble_eq_true rfl) (fun _ => ?_)
                    refine g_goto C dX12_tellDeed_197 rfl (tgt := 260) ?_
                    exact g_vretP C dX12_tellDeed_260 hr hlk h
                · have h := ifF c120 h
                  exact g_vretP C dX12_tellDeed_168 hr hlk h
              refine g_icmp_lt C dX12_tellDeed_126 ix2 (by decide) rfl (tgt := 135) (fun c98 => ?_) (fun c98 => ?_)
              · have h := ifT c98 h
                refine g_mask [true, true, true, false, true, true] ?_
                exact hJ135_137  h
              · have h := ifF c98 h
                refine g_iload_n C dX12_tellDeed_129 rfl ?_
                refine g_bipush C dX12_tellDeed_130 rfl ?_
                refine g_icmp_le C dX12_tellDeed_132 ix2 (by decide) rfl (tgt := 143) (fun c99 => ?_) (fun c99 => ?_)
                · have h := ifT c99 h
                  refine g_iload_n C dX12_tellDeed_143 rfl ?_
                  refine g_if_eq C dX12_tellDeed_144 (by decide) rfl (tgt := 161) (fun c100 => ?_) (fun c100 => absurd c100 (by decide))
                  refine g_aload_n C dX12_tellDeed_161 rfl ?_
                  refine g_getI (j := 12) C dX12_tellDeed_162 rfl (Nat.le_of_ble_eq_true rfl) (Nat.le_of_ble_eq_true rfl) fl_12_256 rfl rfl (fun i101 => ?_)
                  refine g_if_le C dX12_tellDeed_165 i101 rfl (tgt := 169) (fun c102 => ?_) (fun c102 => ?_)
                  · have h := ifT c102 h
                    refine g_aload_n C dX12_tellDeed_169 rfl ?_
                    obtain ⟨σ103, qσ103, h⟩ := bnd h
                    refine g_callV0 (As := []) C dX12_tellDeed_170 mi_X12_next ml_12_277 (ct_X12_next qσ103) rfl rfl ⟨rfl, rfl⟩ ⟨Nat.le_of_ble_eq_true rfl, Nat.le_of_ble_eq_true rfl⟩ ⟨Nat.zero_le _, Nat.zero_le _⟩ rfl (Nat.le_of_ble_eq_true rfl) (fun _ => ?_)
                    refine g_iload_n C dX12_tellDeed_173 rfl ?_
                    refine g_bipush C dX12_tellDeed_174 rfl ?_
                    refine g_icmp_ne C dX12_tellDeed_176 ix2 (by decide) rfl (tgt := 200) (fun c104 => ?_) (fun c104 => ?_)
                    · have h := ifF c104 h
                      refine g_iload_n C dX12_tellDeed_200 rfl ?_
                      refine g_bipush C dX12_tellDeed_201 rfl ?_
                      refine g_icmp_ne C dX12_tellDeed_203 ix2 (by decide) rfl (tgt := 213) (fun c105 => ?_) (fun c105 => ?_)
                      · have h := ifF c105 h
                        refine g_iload_n C dX12_tellDeed_213 rfl ?_
                        refine g_bipush C dX12_tellDeed_214 rfl ?_
                        refine g_icmp_ne C dX12_tellDeed_216 ix2 (by decide) rfl (tgt := 255) (fun c106 => ?_) (fun c106 => ?_)
                        · have h := ifF c106 h
                          refine g_aload_n C dX12_tellDeed_255 rfl ?_
                          refine g_iload_n C dX12_tellDeed_256 rfl ?_
                          obtain ⟨σ107, qσ107, h⟩ := bnd h
                          refine g_callV0 (As := [iv x2]) C dX12_tellDeed_257 mi_X12_tellPlain ml_12_324 (ct_X12_tellPlain ix2 qσ107) rfl rfl ⟨rfl, rfl⟩ ⟨Nat.le_of_ble_eq_true rfl, Nat.le_of_ble_eq_true rfl⟩ ⟨Nat.zero_le _, Nat.zero_le _⟩ rfl (Nat.le_of_ble_eq_true rfl) (fun _ => ?_)
                          exact g_vretP C dX12_tellDeed_260 hr hlk h
                        · have h := ifT c106 h
                          refine g_aload_n C dX12_tellDeed_219 rfl ?_
                          refine g_bipush C dX12_tellDeed_220 rfl ?_
                          obtain ⟨⟨x108, σ109⟩, qx108, h⟩ := bnd h
                          refine g_callV1 (As := [iv 7]) C dX12_tellDeed_222 mi_X12_number ml_12_314 (ct_X12_number (by decide) qx108) rfl rfl ⟨rfl, rfl⟩ ⟨Nat.le_of_ble_eq_true rfl, Nat.le_of_ble_eq_true rfl⟩ ⟨Nat.zero_le _, Nat.zero_le _⟩ rfl (Nat.le_of_ble_eq_true rfl) (fun ix108 => ?_)
                          refine g_istore (L1 := [some (rv w 170), some (iv x2), none, some (iv 0), some (iv x108), none]) C dX12_tellDeed_225 rfl (Nat.le_of_ble_eq_true rfl) rfl ?_
                          refine g_aload_n C dX12_tellDeed_227 rfl ?_
                          refine g_bipush C dX12_tellDeed_228 rfl ?_
                          obtain ⟨σ110, qσ110, h⟩ := bnd h
                          refine g_callV0 (As := [iv 38]) C dX12_tellDeed_230 mi_X12_must ml_12_295 (ct_X12_must (by decide) qσ110) rfl rfl ⟨rfl, rfl⟩ ⟨Nat.le_of_ble_eq_true rfl, Nat.le_of_ble_eq_true rfl⟩ ⟨Nat.zero_le _, Nat.zero_le _⟩ rfl (Nat.le_of_ble_eq_true rfl) (fun _ => ?_)
                          refine g_aload_n C dX12_tellDeed_233 rfl ?_
                          refine g_bipush C dX12_tellDeed_234 rfl ?_
                          obtain ⟨⟨x111, σ112⟩, qx111, h⟩ := bnd h
                          refine g_callV1 (As := [iv 95]) C dX12_tellDeed_236 mi_X12_number ml_12_314 (ct_X12_number (by decide) qx111) rfl rfl ⟨rfl, rfl⟩ ⟨Nat.le_of_ble_eq_true rfl, Nat.le_of_ble_eq_true rfl⟩ ⟨Nat.zero_le _, Nat.zero_le _⟩ rfl (Nat.le_of_ble_eq_true rfl) (fun ix111 => ?_)
                          refine g_istore (L1 := [some (rv w 170), some (iv x2), none, some (iv 0), some (iv x108), some (iv x111)]) C dX12_tellDeed_239 rfl (Nat.le_of_ble_eq_true rfl) rfl ?_
                          refine g_aload_n C dX12_tellDeed_241 rfl ?_
                          refine g_iconst C dX12_tellDeed_242 ?_
                          refine g_bipush C dX12_tellDeed_243 rfl ?_
                          refine g_iload C dX12_tellDeed_245 rfl ?_
                          refine g_iload C dX12_tellDeed_247 rfl ?_
                          obtain ⟨σ113, qσ113, h⟩ := bnd h
                          refine g_callV0 (As := [iv 3, iv 16, iv x108, iv x111]) C dX12_tellDeed_249 mi_X12_opens ml_12_317 (ct_X12_opens (by decide) (by decide) ix108 ix111 qσ113) rfl rfl ⟨rfl, rfl⟩ ⟨Nat.le_of_ble_eq_true rfl, Nat.le_of_ble_eq_true rfl⟩ ⟨Nat.zero_le _, Nat.zero_le _⟩ rfl (Nat.le_of_ble_eq_true rfl) (fun _ => ?_)
                          refine g_goto C dX12_tellDeed_252 rfl (tgt := 260) ?_
                          exact g_vretP C dX12_tellDeed_260 hr hlk h
                      · have h := ifT c105 h
                        refine g_aload_n C dX12_tellDeed_206 rfl ?_
                        obtain ⟨σ114, qσ114, h⟩ := bnd h
                        refine g_callV0 (As := []) C dX12_tellDeed_207 mi_X12_tellTest ml_12_321 (ct_X12_tellTest qσ114) rfl rfl ⟨rfl, rfl⟩ ⟨Nat.le_of_ble_eq_true rfl, Nat.le_of_ble_eq_true rfl⟩ ⟨Nat.zero_le _, Nat.zero_le _⟩ rfl (Nat.le_of_ble_eq_true rfl) (fun _ => ?_)
                        refine g_goto C dX12_tellDeed_210 rfl (tgt := 260) ?_
                        exact g_vretP C dX12_tellDeed_260 hr hlk h
                    · have h := ifT c104 h
                      refine g_aload_n C dX12_tellDeed_179 rfl ?_
                      refine g_bipush C dX12_tellDeed_180 rfl ?_
                      obtain ⟨⟨x115, σ116⟩, qx115, h⟩ := bnd h
                      refine g_callV1 (As := [iv 95]) C dX12_tellDeed_182 mi_X12_number ml_12_314 (ct_X12_number (by decide) qx115) rfl rfl ⟨rfl, rfl⟩ ⟨Nat.le_of_ble_eq_true rfl, Nat.le_of_ble_eq_true rfl⟩ ⟨Nat.zero_le _, Nat.zero_le _⟩ rfl (Nat.le_of_ble_eq_true rfl) (fun ix115 => ?_)
                      refine g_istore (L1 := [some (rv w 170), some (iv x2), none, some (iv 0), some (iv x115), none]) C dX12_tellDeed_185 rfl (Nat.le_of_ble_eq_true rfl) rfl ?_
                      refine g_aload_n C dX12_tellDeed_187 rfl ?_
                      refine g_iconst C dX12_tellDeed_188 ?_
                      refine g_bipush C dX12_tellDeed_189 rfl ?_
                      refine g_iload C dX12_tellDeed_191 rfl ?_
                      refine g_iconst C dX12_tellDeed_193 ?_
                      obtain ⟨σ117, qσ117, h⟩ := bnd h
                      refine g_callV0 (As := [iv 1, iv 12, iv x115, iv 0]) C dX12_tellDeed_194 mi_X12_opens ml_12_317 (ct_X12_opens (by decide) (by decide) ix115 (by decide) qσ117) rfl rfl ⟨rfl, rfl⟩ ⟨Nat.le_of_ble_eq_true rfl, Nat.le_of_ble_eq_true rfl⟩ ⟨Nat.zero_le _, Nat.zero_le _⟩ rfl (Nat.le_of_ble_eq_true rfl) (fun _ => ?_)
                      refine g_goto C dX12_tellDeed_197 rfl (tgt := 260) ?_
                      exact g_vretP C dX12_tellDeed_260 hr hlk h
                  · have h := ifF c102 h
                    exact g_vretP C dX12_tellDeed_168 hr hlk h
                · have h := ifF c99 h
                  refine g_mask [true, true, true, false, true, true] ?_
                  exact hJ135_137  h
            · have h := ifF c96 h
              exact hJ113_164  h
      · have h := ifF c87 h
        refine g_iload_n C dX12_tellDeed_73 rfl ?_
        refine g_if_eq C dX12_tellDeed_74 (by decide) rfl (tgt := 86) (fun c88 => absurd c88 (by decide)) (fun c88 => ?_)
        refine g_aload_n C dX12_tellDeed_77 rfl ?_
        obtain ⟨σ89, qσ89, h⟩ := bnd h
        refine g_callV0 (As := []) C dX12_tellDeed_78 mi_X12_next ml_12_277 (ct_X12_next qσ89) rfl rfl ⟨rfl, rfl⟩ ⟨Nat.le_of_ble_eq_true rfl, Nat.le_of_ble_eq_true rfl⟩ ⟨Nat.zero_le _, Nat.zero_le _⟩ rfl (Nat.le_of_ble_eq_true rfl) (fun _ => ?_)
        refine g_aload_n C dX12_tellDeed_81 rfl ?_
        obtain ⟨σ90, qσ90, h⟩ := bnd h
        refine g_callV0 (As := []) C dX12_tellDeed_82 mi_X12_turnsElse ml_12_311 (ct_X12_turnsElse qσ90) rfl rfl ⟨rfl, rfl⟩ ⟨Nat.le_of_ble_eq_true rfl, Nat.le_of_ble_eq_true rfl⟩ ⟨Nat.zero_le _, Nat.zero_le _⟩ rfl (Nat.le_of_ble_eq_true rfl) (fun _ => ?_)
        exact g_vretP C dX12_tellDeed_85 hr hlk h
    refine g_icmp_eq C dX12_tellDeed_40 ix6 (by decide) rfl (tgt := 58) (fun c7 => ?_) (fun c7 => ?_)
    · have h := ifT c7 h
      exact hJ58_165  h
    · have h := ifF c7 h
      refine g_aload_n C dX12_tellDeed_43 rfl ?_
      refine g_getR (j := 28) C dX12_tellDeed_44 rfl (Nat.le_of_ble_eq_true rfl) (Nat.le_of_ble_eq_true rfl) fl_12_61 rfl rfl (r := 185) rfl ?_
      refine g_aload_n C dX12_tellDeed_47 rfl ?_
      refine g_getI (j := 27) C dX12_tellDeed_48 rfl (Nat.le_of_ble_eq_true rfl) (Nat.le_of_ble_eq_true rfl) fl_12_302 rfl rfl (fun i8 => ?_)
      refine g_iconst C dX12_tellDeed_51 ?_
      refine g_isub C dX12_tellDeed_52 ?_
      obtain ⟨x9, qx9, h⟩ := bnd h
      refine g_iald C dX12_tellDeed_53 rfl rfl qx9 (iwr _) (fun ix9 => ?_)
      refine g_iconst C dX12_tellDeed_54 ?_
      refine g_icmp_ne C dX12_tellDeed_55 ix9 (by decide) rfl (tgt := 62) (fun c10 => ?_) (fun c10 => ?_)
      · have h := ifF c10 h
        refine g_iconst C dX12_tellDeed_62 ?_
        refine g_istore_n (L1 := [some (rv w 170), some (iv x2), some (iv 0), none, none, none]) C dX12_tellDeed_63 rfl (Nat.le_of_ble_eq_true rfl) rfl ?_
        refine g_aload_n C dX12_tellDeed_64 rfl ?_
        refine g_bipush C dX12_tellDeed_65 rfl ?_
        obtain ⟨x11, qx11, h⟩ := bnd h
        refine g_callV1 (As := [iv 36]) C dX12_tellDeed_67 mi_X12_is ml_12_274 (ct_X12_is (by decide) qx11) rfl rfl ⟨rfl, rfl⟩ ⟨Nat.le_of_ble_eq_true rfl, Nat.le_of_ble_eq_true rfl⟩ ⟨Nat.zero_le _, Nat.zero_le _⟩ rfl (Nat.le_of_ble_eq_true rfl) (fun ix11 => ?_)
        have hJ86_85 : m_X12_tellDeed_J86 σ x2 = some σ' → GM w p l e rm_X12_tellDeed s m args below meth c none True σ' 6 86 [some (rv w 170), some (iv x2), none, none, none, none] [] σ := by
          intro h
          unfold m_X12_tellDeed_J86 at h
          refine g_aload_n C dX12_tellDeed_86 rfl ?_
          refine g_bipush C dX12_tellDeed_87 rfl ?_
          obtain ⟨x14, qx14, h⟩ := bnd h
          refine g_callV1 (As := [iv 34]) C dX12_tellDeed_89 mi_X12_is ml_12_274 (ct_X12_is (by decide) qx14) rfl rfl ⟨rfl, rfl⟩ ⟨Nat.le_of_ble_eq_true rfl, Nat.le_of_ble_eq_true rfl⟩ ⟨Nat.zero_le _, Nat.zero_le _⟩ rfl (Nat.le_of_ble_eq_true rfl) (fun ix14 => ?_)
          have hJ113_84 : m_X12_tellDeed_J113 σ x2 = some σ' → GM w p l e rm_X12_tellDeed s m args below meth c none True σ' 6 113 [some (rv w 170), some (iv x2), none, none, none, none] [] σ := by
            intro h
            unfold m_X12_tellDeed_J113 at h
            refine g_iconst C dX12_tellDeed_113 ?_
            refine g_goto C dX12_tellDeed_114 rfl (tgt := 118) ?_
            refine g_istore_n (L1 := [some (rv w 170), some (iv x2), none, some (iv 1), none, none]) C dX12_tellDeed_118 rfl (Nat.le_of_ble_eq_true rfl) rfl ?_
            refine g_iload_n C dX12_tellDeed_119 rfl ?_
            refine g_if_ne C dX12_tellDeed_120 (by decide) rfl (tgt := 143) (fun c60 => ?_) (fun c60 => absurd c60 (by decide))
            refine g_iload_n C dX12_tellDeed_143 rfl ?_
            refine g_if_eq C dX12_tellDeed_144 (by decide) rfl (tgt := 161) (fun c61 => absurd c61 (by decide)) (fun c61 => ?_)
            refine g_aload_n C dX12_tellDeed_147 rfl ?_
            refine g_getI (j := 27) C dX12_tellDeed_148 rfl (Nat.le_of_ble_eq_true rfl) (Nat.le_of_ble_eq_true rfl) fl_12_302 rfl rfl (fun i62 => ?_)
            refine g_bipush C dX12_tellDeed_151 rfl ?_
            have hJ161_83 : ∀ (σ65 : St) , m_X12_tellDeed_J161 x2 σ65 = some σ' → GM w p l e rm_X12_tellDeed s m args below meth c none True σ' 6 161 [some (rv w 170), some (iv x2), none, none, none, none] [] σ65 := by
              intro σ65 h
              unfold m_X12_tellDeed_J161 at h
              refine g_aload_n C dX12_tellDeed_161 rfl ?_
              refine g_getI (j := 12) C dX12_tellDeed_162 rfl (Nat.le_of_ble_eq_true rfl) (Nat.le_of_ble_eq_true rfl) fl_12_256 rfl rfl (fun i66 => ?_)
              refine g_if_le C dX12_tellDeed_165 i66 rfl (tgt := 169) (fun c67 => ?_) (fun c67 => ?_)
              · have h := ifT c67 h
                refine g_aload_n C dX12_tellDeed_169 rfl ?_
                obtain ⟨σ68, qσ68, h⟩ := bnd h
                refine g_callV0 (As := []) C dX12_tellDeed_170 mi_X12_next ml_12_277 (ct_X12_next qσ68) rfl rfl ⟨rfl, rfl⟩ ⟨Nat.le_of_ble_eq_true rfl, Nat.le_of_ble_eq_true rfl⟩ ⟨Nat.zero_le _, Nat.zero_le _⟩ rfl (Nat.le_of_ble_eq_true rfl) (fun _ => ?_)
                refine g_iload_n C dX12_tellDeed_173 rfl ?_
                refine g_bipush C dX12_tellDeed_174 rfl ?_
                refine g_icmp_ne C dX12_tellDeed_176 ix2 (by decide) rfl (tgt := 200) (fun c69 => ?_) (fun c69 => ?_)
                · have h := ifF c69 h
                  refine g_iload_n C dX12_tellDeed_200 rfl ?_
                  refine g_bipush C dX12_tellDeed_201 rfl ?_
                  refine g_icmp_ne C dX12_tellDeed_203 ix2 (by decide) rfl (tgt := 213) (fun c70 => ?_) (fun c70 => ?_)
                  · have h := ifF c70 h
                    refine g_iload_n C dX12_tellDeed_213 rfl ?_
                    refine g_bipush C dX12_tellDeed_214 rfl ?_
                    refine g_icmp_ne C dX12_tellDeed_216 ix2 (by decide) rfl (tgt := 255) (fun c71 => ?_) (fun c71 => ?_)
                    · have h := ifF c71 h
                      refine g_aload_n C dX12_tellDeed_255 rfl ?_
                      refine g_iload_n C dX12_tellDeed_256 rfl ?_
                      obtain ⟨σ72, qσ72, h⟩ := bnd h
                      refine g_callV0 (As := [iv x2]) C dX12_tellDeed_257 mi_X12_tellPlain ml_12_324 (ct_X12_tellPlain ix2 qσ72) rfl rfl ⟨rfl, rfl⟩ ⟨Nat.le_of_ble_eq_true rfl, Nat.le_of_ble_eq_true rfl⟩ ⟨Nat.zero_le _, Nat.zero_le _⟩ rfl (Nat.le_of_ble_eq_true rfl) (fun _ => ?_)
                      exact g_vretP C dX12_tellDeed_260 hr hlk h
                    · have h := ifT c71 h
                      refine g_aload_n C dX12_tellDeed_219 rfl ?_
                      refine g_bipush C dX12_tellDeed_220 rfl ?_
                      obtain ⟨⟨x73, σ74⟩, qx73, h⟩ := bnd h
                      refine g_callV1 (As := [iv 7]) C dX12_tellDeed_222 mi_X12_number ml_12_314 (ct_X12_number (by decide) qx73) rfl rfl ⟨rfl, rfl⟩ ⟨Nat.le_of_ble_eq_true rfl, Nat.le_of_ble_eq_true rfl⟩ ⟨Nat.zero_le _, Nat.zero_le _⟩ rfl (Nat.le_of_ble_eq_true rfl) (fun ix73 => ?_)
                      refine g_istore (L1 := [some (rv w 170), some (iv x2), none, none, some (iv x73), none]) C dX12_tellDeed_225 rfl (Nat.le_of_ble_eq_true rfl) rfl ?_
                      refine g_aload_n C dX12_tellDeed_227 rfl ?_
                      refine g_bipush C dX12_tellDeed_228 rfl ?_
                      obtain ⟨σ75, qσ75, h⟩ := bnd h
                      refine g_callV0 (As := [iv 38]) C dX12_tellDeed_230 mi_X12_must ml_12_295 (ct_X12_must (by decide) qσ75) rfl rfl ⟨rfl, rfl⟩ ⟨Nat.le_of_ble_eq_true rfl, Nat.le_of_ble_eq_true rfl⟩ ⟨Nat.zero_le _, Nat.zero_le _⟩ rfl (Nat.le_of_ble_eq_true rfl) (fun _ => ?_)
                      refine g_aload_n C dX12_tellDeed_233 rfl ?_
                      refine g_bipush C dX12_tellDeed_234 rfl ?_
                      obtain ⟨⟨x76, σ77⟩, qx76, h⟩ := bnd h
                      refine g_callV1 (As := [iv 95]) C dX12_tellDeed_236 mi_X12_number ml_12_314 (ct_X12_number (by decide) qx76) rfl rfl ⟨rfl, rfl⟩ ⟨Nat.le_of_ble_eq_true rfl, Nat.le_of_ble_eq_true rfl⟩ ⟨Nat.zero_le _, Nat.zero_le _⟩ rfl (Nat.le_of_ble_eq_true rfl) (fun ix76 => ?_)
                      refine g_istore (L1 := [some (rv w 170), some (iv x2), none, none, some (iv x73), some (iv x76)]) C dX12_tellDeed_239 rfl (Nat.le_of_ble_eq_true rfl) rfl ?_
                      refine g_aload_n C dX12_tellDeed_241 rfl ?_
                      refine g_iconst C dX12_tellDeed_242 ?_
                      refine g_bipush C dX12_tellDeed_243 rfl ?_
                      refine g_iload C dX12_tellDeed_245 rfl ?_
                      refine g_iload C dX12_tellDeed_247 rfl ?_
                      obtain ⟨σ78, qσ78, h⟩ := bnd h
                      refine g_callV0 (As := [iv 3, iv 16, iv x73, iv x76]) C dX12_tellDeed_249 mi_X12_opens ml_12_317 (ct_X12_opens (by decide) (by decide) ix73 ix76 qσ78) rfl rfl ⟨rfl, rfl⟩ ⟨Nat.le_of_ble_eq_true rfl, Nat.le_of_ble_eq_true rfl⟩ ⟨Nat.zero_le _, Nat.zero_le _⟩ rfl (Nat.le_of_ble_eq_true rfl) (fun _ => ?_)
                      refine g_goto C dX12_tellDeed_252 rfl (tgt := 260) ?_
                      exact g_vretP C dX12_tellDeed_260 hr hlk h
                  · have h := ifT c70 h
                    refine g_aload_n C dX12_tellDeed_206 rfl ?_
                    obtain ⟨σ79, qσ79, h⟩ := bnd h
                    refine g_callV0 (As := []) C dX12_tellDeed_207 mi_X12_tellTest ml_12_321 (ct_X12_tellTest qσ79) rfl rfl ⟨rfl, rfl⟩ ⟨Nat.le_of_ble_eq_true rfl, Nat.le_of_ble_eq_true rfl⟩ ⟨Nat.zero_le _, Nat.zero_le _⟩ rfl (Nat.le_of_ble_eq_true rfl) (fun _ => ?_)
                    refine g_goto C dX12_tellDeed_210 rfl (tgt := 260) ?_
                    exact g_vretP C dX12_tellDeed_260 hr hlk h
                · have h := ifT c69 h
                  refine g_aload_n C dX12_tellDeed_179 rfl ?_
                  refine g_bipush C dX12_tellDeed_180 rfl ?_
                  obtain ⟨⟨x80, σ81⟩, qx80, h⟩ := bnd h
                  refine g_callV1 (As := [iv 95]) C dX12_tellDeed_182 mi_X12_number ml_12_314 (ct_X12_number (by decide) qx80) rfl rfl ⟨rfl, rfl⟩ ⟨Nat.le_of_ble_eq_true rfl, Nat.le_of_ble_eq_true rfl⟩ ⟨Nat.zero_le _, Nat.zero_le _⟩ rfl (Nat.le_of_ble_eq_true rfl) (fun ix80 => ?_)
                  refine g_istore (L1 := [some (rv w 170), some (iv x2), none, none, some (iv x80), none]) C dX12_tellDeed_185 rfl (Nat.le_of_ble_eq_true rfl) rfl ?_
                  refine g_aload_n C dX12_tellDeed_187 rfl ?_
                  refine g_iconst C dX12_tellDeed_188 ?_
                  refine g_bipush C dX12_tellDeed_189 rfl ?_
                  refine g_iload C dX12_tellDeed_191 rfl ?_
                  refine g_iconst C dX12_tellDeed_193 ?_
                  obtain ⟨σ82, qσ82, h⟩ := bnd h
                  refine g_callV0 (As := [iv 1, iv 12, iv x80, iv 0]) C dX12_tellDeed_194 mi_X12_opens ml_12_317 (ct_X12_opens (by decide) (by decide) ix80 (by decide) qσ82) rfl rfl ⟨rfl, rfl⟩ ⟨Nat.le_of_ble_eq_true rfl, Nat.le_of_ble_eq_true rfl⟩ ⟨Nat.zero_le _, Nat.zero_le _⟩ rfl (Nat.le_of_ble_eq_true rfl) (fun _ => ?_)
                  refine g_goto C dX12_tellDeed_197 rfl (tgt := 260) ?_
                  exact g_vretP C dX12_tellDeed_260 hr hlk h
              · have h := ifF c67 h
                exact g_vretP C dX12_tellDeed_168 hr hlk h
            refine g_icmp_ne C dX12_tellDeed_153 i62 (by decide) rfl (tgt := 161) (fun c63 => ?_) (fun c63 => ?_)
            · have h := ifF c63 h
              refine g_mask [true, true, true, false, true, true] ?_
              exact hJ161_83 σ h
            · have h := ifT c63 h
              refine g_aload_n C dX12_tellDeed_156 rfl ?_
              refine g_iconst C dX12_tellDeed_157 ?_
              obtain ⟨σ64, qσ64, h⟩ := bnd h
              refine g_callV0 (As := [iv 2]) C dX12_tellDeed_158 mi_X12_fail ml_12_271 (ct_X12_fail (by decide) qσ64) rfl rfl ⟨rfl, rfl⟩ ⟨Nat.le_of_ble_eq_true rfl, Nat.le_of_ble_eq_true rfl⟩ ⟨Nat.zero_le _, Nat.zero_le _⟩ rfl (Nat.le_of_ble_eq_true rfl) (fun _ => ?_)
              refine g_mask [true, true, true, false, true, true] ?_
              exact hJ161_83 σ64 h
          refine g_if_ne C dX12_tellDeed_92 (zI ix14) rfl (tgt := 113) (fun c15 => ?_) (fun c15 => ?_)
          · have h := ifF c15 h
            exact hJ113_84  h
          · have h := ifT c15 h
            refine g_aload_n C dX12_tellDeed_95 rfl ?_
            refine g_bipush C dX12_tellDeed_96 rfl ?_
            obtain ⟨x16, qx16, h⟩ := bnd h
            refine g_callV1 (As := [iv 35]) C dX12_tellDeed_98 mi_X12_is ml_12_274 (ct_X12_is (by decide) qx16) rfl rfl ⟨rfl, rfl⟩ ⟨Nat.le_of_ble_eq_true rfl, Nat.le_of_ble_eq_true rfl⟩ ⟨Nat.zero_le _, Nat.zero_le _⟩ rfl (Nat.le_of_ble_eq_true rfl) (fun ix16 => ?_)
            refine g_if_ne C dX12_tellDeed_101 (zI ix16) rfl (tgt := 113) (fun c17 => ?_) (fun c17 => ?_)
            · have h := ifF c17 h
              exact hJ113_84  h
            · have h := ifT c17 h
              refine g_aload_n C dX12_tellDeed_104 rfl ?_
              refine g_bipush C dX12_tellDeed_105 rfl ?_
              obtain ⟨x18, qx18, h⟩ := bnd h
              refine g_callV1 (As := [iv 37]) C dX12_tellDeed_107 mi_X12_is ml_12_274 (ct_X12_is (by decide) qx18) rfl rfl ⟨rfl, rfl⟩ ⟨Nat.le_of_ble_eq_true rfl, Nat.le_of_ble_eq_true rfl⟩ ⟨Nat.zero_le _, Nat.zero_le _⟩ rfl (Nat.le_of_ble_eq_true rfl) (fun ix18 => ?_)
              refine g_if_eq C dX12_tellDeed_110 (zI ix18) rfl (tgt := 117) (fun c19 => ?_) (fun c19 => ?_)
              · have h := ifT c19 h
                refine g_iconst C dX12_tellDeed_117 ?_
                refine g_istore_n (L1 := [some (rv w 170), some (iv x2), none, some (iv 0), none, none]) C dX12_tellDeed_118 rfl (Nat.le_of_ble_eq_true rfl) rfl ?_
                refine g_iload_n C dX12_tellDeed_119 rfl ?_
                refine g_if_ne C dX12_tellDeed_120 (by decide) rfl (tgt := 143) (fun c20 => absurd c20 (by decide)) (fun c20 => ?_)
                refine g_iload_n C dX12_tellDeed_123 rfl ?_
                refine g_bipush C dX12_tellDeed_124 rfl ?_
                have hJ135_59 : m_X12_tellDeed_J135 σ x2 = some σ' → GM w p l e rm_X12_tellDeed s m args below meth c none True σ' 6 135 [some (rv w 170), some (iv x2), none, none, none, none] [] σ := by
                  intro h
                  unfold m_X12_tellDeed_J135 at h
                  refine g_aload_n C dX12_tellDeed_135 rfl ?_
                  refine g_iconst C dX12_tellDeed_136 ?_
                  obtain ⟨σ41, qσ41, h⟩ := bnd h
                  refine g_callV0 (As := [iv 1]) C dX12_tellDeed_137 mi_X12_fail ml_12_271 (ct_X12_fail (by decide) qσ41) rfl rfl ⟨rfl, rfl⟩ ⟨Nat.le_of_ble_eq_true rfl, Nat.le_of_ble_eq_true rfl⟩ ⟨Nat.zero_le _, Nat.zero_le _⟩ rfl (Nat.le_of_ble_eq_true rfl) (fun _ => ?_)
                  refine g_goto C dX12_tellDeed_140 rfl (tgt := 161) ?_
                  refine g_aload_n C dX12_tellDeed_161 rfl ?_
                  refine g_getI (j := 12) C dX12_tellDeed_162 rfl (Nat.le_of_ble_eq_true rfl) (Nat.le_of_ble_eq_true rfl) fl_12_256 rfl rfl (fun i42 => ?_)
                  refine g_if_le C dX12_tellDeed_165 i42 rfl (tgt := 169) (fun c43 => ?_) (fun c43 => ?_)
                  · have h := ifT c43 h
                    refine g_aload_n C dX12_tellDeed_169 rfl ?_
                    obtain ⟨σ44, qσ44, h⟩ := bnd h
                    refine g_callV0 (As := []) C dX12_tellDeed_170 mi_X12_next ml_12_277 (ct_X12_next qσ44) rfl rfl ⟨rfl, rfl⟩ ⟨Nat.le_of_ble_eq_true rfl, Nat.le_of_ble_eq_true rfl⟩ ⟨Nat.zero_le _, Nat.zero_le _⟩ rfl (Nat.le_of_ble_eq_true rfl) (fun _ => ?_)
                    refine g_iload_n C dX12_tellDeed_173 rfl ?_
                    refine g_bipush C dX12_tellDeed_174 rfl ?_
                    refine g_icmp_ne C dX12_tellDeed_176 ix2 (by decide) rfl (tgt := 200) (fun c45 => ?_) (fun c45 => ?_)
                    · have h := ifF c45 h
                      refine g_iload_n C dX12_tellDeed_200 rfl ?_
                      refine g_bipush C dX12_tellDeed_201 rfl ?_
                      refine g_icmp_ne C dX12_tellDeed_203 ix2 (by decide) rfl (tgt := 213) (fun c46 => ?_) (fun c46 => ?_)
                      · have h := ifF c46 h
                        refine g_iload_n C dX12_tellDeed_213 rfl ?_
                        refine g_bipush C dX12_tellDeed_214 rfl ?_
                        refine g_icmp_ne C dX12_tellDeed_216 ix2 (by decide) rfl (tgt := 255) (fun c47 => ?_) (fun c47 => ?_)
                        · have h := ifF c47 h
                          refine g_aload_n C dX12_tellDeed_255 rfl ?_
                          refine g_iload_n C dX12_tellDeed_256 rfl ?_
                          obtain ⟨σ48, qσ48, h⟩ := bnd h
                          refine g_callV0 (As := [iv x2]) C dX12_tellDeed_257 mi_X12_tellPlain ml_12_324 (ct_X12_tellPlain ix2 qσ48) rfl rfl ⟨rfl, rfl⟩ ⟨Nat.le_of_ble_eq_true rfl, Nat.le_of_ble_eq_true rfl⟩ ⟨Nat.zero_le _, Nat.zero_le _⟩ rfl (Nat.le_of_ble_eq_true rfl) (fun _ => ?_)
                          exact g_vretP C dX12_tellDeed_260 hr hlk h
                        · have h := ifT c47 h
                          refine g_aload_n C dX12_tellDeed_219 rfl ?_
                          refine g_bipush C dX12_tellDeed_220 rfl ?_
                          obtain ⟨⟨x49, σ50⟩, qx49, h⟩ := bnd h
                          refine g_callV1 (As := [iv 7]) C dX12_tellDeed_222 mi_X12_number ml_12_314 (ct_X12_number (by decide) qx49) rfl rfl ⟨rfl, rfl⟩ ⟨Nat.le_of_ble_eq_true rfl, Nat.le_of_ble_eq_true rfl⟩ ⟨Nat.zero_le _, Nat.zero_le _⟩ rfl (Nat.le_of_ble_eq_true rfl) (fun ix49 => ?_)
                          refine g_istore (L1 := [some (rv w 170), some (iv x2), none, none, some (iv x49), none]) C dX12_tellDeed_225 rfl (Nat.le_of_ble_eq_true rfl) rfl ?_
                          refine g_aload_n C dX12_tellDeed_227 rfl ?_
                          refine g_bipush C dX12_tellDeed_228 rfl ?_
                          obtain ⟨σ51, qσ51, h⟩ := bnd h
                          refine g_callV0 (As := [iv 38]) C dX12_tellDeed_230 mi_X12_must ml_12_295 (ct_X12_must (by decide) qσ51) rfl rfl ⟨rfl, rfl⟩ ⟨Nat.le_of_ble_eq_true rfl, Nat.le_of_ble_eq_true rfl⟩ ⟨Nat.zero_le _, Nat.zero_le _⟩ rfl (Nat.le_of_ble_eq_true rfl) (fun _ => ?_)
                          refine g_aload_n C dX12_tellDeed_233 rfl ?_
                          refine g_bipush C dX12_tellDeed_234 rfl ?_
                          obtain ⟨⟨x52, σ53⟩, qx52, h⟩ := bnd h
                          refine g_callV1 (As := [iv 95]) C dX12_tellDeed_236 mi_X12_number ml_12_314 (ct_X12_number (by decide) qx52) rfl rfl ⟨rfl, rfl⟩ ⟨Nat.le_of_ble_eq_true rfl, Nat.le_of_ble_eq_true rfl⟩ ⟨Nat.zero_le _, Nat.zero_le _⟩ rfl (Nat.le_of_ble_eq_true rfl) (fun ix52 => ?_)
                          refine g_istore (L1 := [some (rv w 170), some (iv x2), none, none, some (iv x49), some (iv x52)]) C dX12_tellDeed_239 rfl (Nat.le_of_ble_eq_true rfl) rfl ?_
                          refine g_aload_n C dX12_tellDeed_241 rfl ?_
                          refine g_iconst C dX12_tellDeed_242 ?_
                          refine g_bipush C dX12_tellDeed_243 rfl ?_
                          refine g_iload C dX12_tellDeed_245 rfl ?_
                          refine g_iload C dX12_tellDeed_247 rfl ?_
                          obtain ⟨σ54, qσ54, h⟩ := bnd h
                          refine g_callV0 (As := [iv 3, iv 16, iv x49, iv x52]) C dX12_tellDeed_249 mi_X12_opens ml_12_317 (ct_X12_opens (by decide) (by decide) ix49 ix52 qσ54) rfl rfl ⟨rfl, rfl⟩ ⟨Nat.le_of_ble_eq_true rfl, Nat.le_of_ble_eq_true rfl⟩ ⟨Nat.zero_le _, Nat.zero_le _⟩ rfl (Nat.le_of_ble_eq_true rfl) (fun _ => ?_)
                          refine g_goto C dX12_tellDeed_252 rfl (tgt := 260) ?_
                          exact g_vretP C dX12_tellDeed_260 hr hlk h
                      · have h := ifT c46 h
                        refine g_aload_n C dX12_tellDeed_206 rfl ?_
                        obtain ⟨σ55, qσ55, h⟩ := bnd h
                        refine g_callV0 (As := []) C dX12_tellDeed_207 mi_X12_tellTest ml_12_321 (ct_X12_tellTest qσ55) rfl rfl ⟨rfl, rfl⟩ ⟨Nat.le_of_ble_eq_true rfl, Nat.le_of_ble_eq_true rfl⟩ ⟨Nat.zero_le _, Nat.zero_le _⟩ rfl (Nat.le_of_ble_eq_true rfl) (fun _ => ?_)
                        refine g_goto C dX12_tellDeed_210 rfl (tgt := 260) ?_
                        exact g_vretP C dX12_tellDeed_260 hr hlk h
                    · have h := ifT c45 h
                      refine g_aload_n C dX12_tellDeed_179 rfl ?_
                      refine g_bipush C dX12_tellDeed_180 rfl ?_
                      obtain ⟨⟨x56, σ57⟩, qx56, h⟩ := bnd h
                      refine g_callV1 (As := [iv 95]) C dX12_tellDeed_182 mi_X12_number ml_12_314 (ct_X12_number (by decide) qx56) rfl rfl ⟨rfl, rfl⟩ ⟨Nat.le_of_ble_eq_true rfl, Nat.le_of_ble_eq_true rfl⟩ ⟨Nat.zero_le _, Nat.zero_le _⟩ rfl (Nat.le_of_ble_eq_true rfl) (fun ix56 => ?_)
                      refine g_istore (L1 := [some (rv w 170), some (iv x2), none, none, some (iv x56), none]) C dX12_tellDeed_185 rfl (Nat.le_of_ble_eq_true rfl) rfl ?_
                      refine g_aload_n C dX12_tellDeed_187 rfl ?_
                      refine g_iconst C dX12_tellDeed_188 ?_
                      refine g_bipush C dX12_tellDeed_189 rfl ?_
                      refine g_iload C dX12_tellDeed_191 rfl ?_
                      refine g_iconst C dX12_tellDeed_193 ?_
                      obtain ⟨σ58, qσ58, h⟩ := bnd h
                      refine g_callV0 (As := [iv 1, iv 12, iv x56, iv 0]) C dX12_tellDeed_194 mi_X12_opens ml_12_317 (ct_X12_opens (by decide) (by decide) ix56 (by decide) qσ58) rfl rfl ⟨rfl, rfl⟩ ⟨Nat.le_of_ble_eq_true rfl, Nat.le_of_ble_eq_true rfl⟩ ⟨Nat.zero_le _, Nat.zero_le _⟩ rfl (Nat.le_of_ble_eq_true rfl) (fun _ => ?_)
                      refine g_goto C dX12_tellDeed_197 rfl (tgt := 260) ?_
                      exact g_vretP C dX12_tellDeed_260 hr hlk h
                  · have h := ifF c43 h
                    exact g_vretP C dX12_tellDeed_168 hr hlk h
                refine g_icmp_lt C dX12_tellDeed_126 ix2 (by decide) rfl (tgt := 135) (fun c21 => ?_) (fun c21 => ?_)
                · have h := ifT c21 h
                  refine g_mask [true, true, true, false, true, true] ?_
                  exact hJ135_59  h
                · have h := ifF c21 h
                  refine g_iload_n C dX12_tellDeed_129 rfl ?_
                  refine g_bipush C dX12_tellDeed_130 rfl ?_
                  refine g_icmp_le C dX12_tellDeed_132 ix2 (by decide) rfl (tgt := 143) (fun c22 => ?_) (fun c22 => ?_)
                  · have h := ifT c22 h
                    refine g_iload_n C dX12_tellDeed_143 rfl ?_
                    refine g_if_eq C dX12_tellDeed_144 (by decide) rfl (tgt := 161) (fun c23 => ?_) (fun c23 => absurd c23 (by decide))
                    refine g_aload_n C dX12_tellDeed_161 rfl ?_
                    refine g_getI (j := 12) C dX12_tellDeed_162 rfl (Nat.le_of_ble_eq_true rfl) (Nat.le_of_ble_eq_true rfl) fl_12_256 rfl rfl (fun i24 => ?_)
                    refine g_if_le C dX12_tellDeed_165 i24 rfl (tgt := 169) (fun c25 => ?_) (fun c25 => ?_)
                    · have h := ifT c25 h
                      refine g_aload_n C dX12_tellDeed_169 rfl ?_
                      obtain ⟨σ26, qσ26, h⟩ := bnd h
                      refine g_callV0 (As := []) C dX12_tellDeed_170 mi_X12_next ml_12_277 (ct_X12_next qσ26) rfl rfl ⟨rfl, rfl⟩ ⟨Nat.le_of_ble_eq_true rfl, Nat.le_of_ble_eq_true rfl⟩ ⟨Nat.zero_le _, Nat.zero_le _⟩ rfl (Nat.le_of_ble_eq_true rfl) (fun _ => ?_)
                      refine g_iload_n C dX12_tellDeed_173 rfl ?_
                      refine g_bipush C dX12_tellDeed_174 rfl ?_
                      refine g_icmp_ne C dX12_tellDeed_176 ix2 (by decide) rfl (tgt := 200) (fun c27 => ?_) (fun c27 => ?_)
                      · have h := ifF c27 h
                        refine g_iload_n C dX12_tellDeed_200 rfl ?_
                        refine g_bipush C dX12_tellDeed_201 rfl ?_
                        refine g_icmp_ne C dX12_tellDeed_203 ix2 (by decide) rfl (tgt := 213) (fun c28 => ?_) (fun c28 => ?_)
                        · have h := ifF c28 h
                          refine g_iload_n C dX12_tellDeed_213 rfl ?_
                          refine g_bipush C dX12_tellDeed_214 rfl ?_
                          refine g_icmp_ne C dX12_tellDeed_216 ix2 (by decide) rfl (tgt := 255) (fun c29 => ?_) (fun c29 => ?_)
                          · have h := ifF c29 h
                            refine g_aload_n C dX12_tellDeed_255 rfl ?_
                            refine g_iload_n C dX12_tellDeed_256 rfl ?_
                            obtain ⟨σ30, qσ30, h⟩ := bnd h
                            refine g_callV0 (As := [iv x2]) C dX12_tellDeed_257 mi_X12_tellPlain ml_12_324 (ct_X12_tellPlain ix2 qσ30) rfl rfl ⟨rfl, rfl⟩ ⟨Nat.le_of_ble_eq_true rfl, Nat.le_of_ble_eq_true rfl⟩ ⟨Nat.zero_le _, Nat.zero_le _⟩ rfl (Nat.le_of_ble_eq_true rfl) (fun _ => ?_)
                            exact g_vretP C dX12_tellDeed_260 hr hlk h
                          · have h := ifT c29 h
                            refine g_aload_n C dX12_tellDeed_219 rfl ?_
                            refine g_bipush C dX12_tellDeed_220 rfl ?_
                            obtain ⟨⟨x31, σ32⟩, qx31, h⟩ := bnd h
                            refine g_callV1 (As := [iv 7]) C dX12_tellDeed_222 mi_X12_number ml_12_314 (ct_X12_number (by decide) qx31) rfl rfl ⟨rfl, rfl⟩ ⟨Nat.le_of_ble_eq_true rfl, Nat.le_of_ble_eq_true rfl⟩ ⟨Nat.zero_le _, Nat.zero_le _⟩ rfl (Nat.le_of_ble_eq_true rfl) (fun ix31 => ?_)
                            refine g_istore (L1 := [some (rv w 170), some (iv x2), none, some (iv 0), some (iv x31), none]) C dX12_tellDeed_225 rfl (Nat.le_of_ble_eq_true rfl) rfl ?_
                            refine g_aload_n C dX12_tellDeed_227 rfl ?_
                            refine g_bipush C dX12_tellDeed_228 rfl ?_
                            obtain ⟨σ33, qσ33, h⟩ := bnd h
                            refine g_callV0 (As := [iv 38]) C dX12_tellDeed_230 mi_X12_must ml_12_295 (ct_X12_must (by decide) qσ33) rfl rfl ⟨rfl, rfl⟩ ⟨Nat.le_of_ble_eq_true rfl, Nat.le_of_ble_eq_true rfl⟩ ⟨Nat.zero_le _, Nat.zero_le _⟩ rfl (Nat.le_of_ble_eq_true rfl) (fun _ => ?_)
                            refine g_aload_n C dX12_tellDeed_233 rfl ?_
                            refine g_bipush C dX12_tellDeed_234 rfl ?_
                            obtain ⟨⟨x34, σ35⟩, qx34, h⟩ := bnd h
                            refine g_callV1 (As := [iv 95]) C dX12_tellDeed_236 mi_X12_number ml_12_314 (ct_X12_number (by decide) qx34) rfl rfl ⟨rfl, rfl⟩ ⟨Nat.le_of_ble_eq_true rfl, Nat.le_of_ble_eq_true rfl⟩ ⟨Nat.zero_le _, Nat.zero_le _⟩ rfl (Nat.le_of_ble_eq_true rfl) (fun ix34 => ?_)
                            refine g_istore (L1 := [some (rv w 170), some (iv x2), none, some (iv 0), some (iv x31), some (iv x34)]) C dX12_tellDeed_239 rfl (Nat.le_of_ble_eq_true rfl) rfl ?_
                            refine g_aload_n C dX12_tellDeed_241 rfl ?_
                            refine g_iconst C dX12_tellDeed_242 ?_
                            refine g_bipush C dX12_tellDeed_243 rfl ?_
                            refine g_iload C dX12_tellDeed_245 rfl ?_
                            refine g_iload C dX12_tellDeed_247 rfl ?_
                            obtain ⟨σ36, qσ36, h⟩ := bnd h
                            refine g_callV0 (As := [iv 3, iv 16, iv x31, iv x34]) C dX12_tellDeed_249 mi_X12_opens ml_12_317 (ct_X12_opens (by decide) (by decide) ix31 ix34 qσ36) rfl rfl ⟨rfl, rfl⟩ ⟨Nat.le_of_ble_eq_true rfl, Nat.le_of_ble_eq_true rfl⟩ ⟨Nat.zero_le _, Nat.zero_le _⟩ rfl (Nat.le_of_ble_eq_true rfl) (fun _ => ?_)
                            refine g_goto C dX12_tellDeed_252 rfl (tgt := 260) ?_
                            exact g_vretP C dX12_tellDeed_260 hr hlk h
                        · have h := ifT c28 h
                          refine g_aload_n C dX12_tellDeed_206 rfl ?_
                          obtain ⟨σ37, qσ37, h⟩ := bnd h
                          refine g_callV0 (As := []) C dX12_tellDeed_207 mi_X12_tellTest ml_12_321 (ct_X12_tellTest qσ37) rfl rfl ⟨rfl, rfl⟩ ⟨Nat.le_of_ble_eq_true rfl, Nat.le_of_ble_eq_true rfl⟩ ⟨Nat.zero_le _, Nat.zero_le _⟩ rfl (Nat.le_of_ble_eq_true rfl) (fun _ => ?_)
                          refine g_goto C dX12_tellDeed_210 rfl (tgt := 260) ?_
                          exact g_vretP C dX12_tellDeed_260 hr hlk h
                      · have h := ifT c27 h
                        refine g_aload_n C dX12_tellDeed_179 rfl ?_
                        refine g_bipush C dX12_tellDeed_180 rfl ?_
                        obtain ⟨⟨x38, σ39⟩, qx38, h⟩ := bnd h
                        refine g_callV1 (As := [iv 95]) C dX12_tellDeed_182 mi_X12_number ml_12_314 (ct_X12_number (by decide) qx38) rfl rfl ⟨rfl, rfl⟩ ⟨Nat.le_of_ble_eq_true rfl, Nat.le_of_ble_eq_true rfl⟩ ⟨Nat.zero_le _, Nat.zero_le _⟩ rfl (Nat.le_of_ble_eq_true rfl) (fun ix38 => ?_)
                        refine g_istore (L1 := [some (rv w 170), some (iv x2), none, some (iv 0), some (iv x38), none]) C dX12_tellDeed_185 rfl (Nat.le_of_ble_eq_true rfl) rfl ?_
                        refine g_aload_n C dX12_tellDeed_187 rfl ?_
                        refine g_iconst C dX12_tellDeed_188 ?_
                        refine g_bipush C dX12_tellDeed_189 rfl ?_
                        refine g_iload C dX12_tellDeed_191 rfl ?_
                        refine g_iconst C dX12_tellDeed_193 ?_
                        obtain ⟨σ40, qσ40, h⟩ := bnd h
                        refine g_callV0 (As := [iv 1, iv 12, iv x38, iv 0]) C dX12_tellDeed_194 mi_X12_opens ml_12_317 (ct_X12_opens (by decide) (by decide) ix38 (by decide) qσ40) rfl rfl ⟨rfl, rfl⟩ ⟨Nat.le_of_ble_eq_true rfl, Nat.le_of_ble_eq_true rfl⟩ ⟨Nat.zero_le _, Nat.zero_le _⟩ rfl (Nat.le_of_ble_eq_true rfl) (fun _ => ?_)
                        refine g_goto C dX12_tellDeed_197 rfl (tgt := 260) ?_
                        exact g_vretP C dX12_tellDeed_260 hr hlk h
                    · have h := ifF c25 h
                      exact g_vretP C dX12_tellDeed_168 hr hlk h
                  · have h := ifF c22 h
                    refine g_mask [true, true, true, false, true, true] ?_
                    exact hJ135_59  h
              · have h := ifF c19 h
                exact hJ113_84  h
        refine g_if_eq C dX12_tellDeed_70 (zI ix11) rfl (tgt := 86) (fun c12 => ?_) (fun c12 => ?_)
        · have h := ifT c12 h
          refine g_mask [true, true, false, true, true, true] ?_
          exact hJ86_85  h
        · have h := ifF c12 h
          refine g_iload_n C dX12_tellDeed_73 rfl ?_
          refine g_if_eq C dX12_tellDeed_74 (by decide) rfl (tgt := 86) (fun c13 => ?_) (fun c13 => absurd c13 (by decide))
          refine g_mask [true, true, false, true, true, true] ?_
          exact hJ86_85  h
      · have h := ifT c10 h
        exact hJ58_165  h
  · have h := ifF c4 h
    refine g_aload_n C dX12_tellDeed_19 rfl ?_
    obtain ⟨σ166, qσ166, h⟩ := bnd h
    refine g_callV0 (As := []) C dX12_tellDeed_20 mi_X12_next ml_12_277 (ct_X12_next qσ166) rfl rfl ⟨rfl, rfl⟩ ⟨Nat.le_of_ble_eq_true rfl, Nat.le_of_ble_eq_true rfl⟩ ⟨Nat.zero_le _, Nat.zero_le _⟩ rfl (Nat.le_of_ble_eq_true rfl) (fun _ => ?_)
    refine g_aload_n C dX12_tellDeed_23 rfl ?_
    obtain ⟨σ167, qσ167, h⟩ := bnd h
    refine g_callV0 (As := []) C dX12_tellDeed_24 mi_X12_ends ml_12_308 (ct_X12_ends qσ167) rfl rfl ⟨rfl, rfl⟩ ⟨Nat.le_of_ble_eq_true rfl, Nat.le_of_ble_eq_true rfl⟩ ⟨Nat.zero_le _, Nat.zero_le _⟩ rfl (Nat.le_of_ble_eq_true rfl) (fun _ => ?_)
    exact g_vretP C dX12_tellDeed_27 hr hlk h
theorem dX12_tellCode_0 : decode cX12_tellCode 0 = .ok (.aload_n 0, 1) := by decide +kernel
theorem dX12_tellCode_1 : decode cX12_tellCode 1 = .ok (.bipush 20, 2) := by decide +kernel
theorem dX12_tellCode_3 : decode cX12_tellCode 3 = .ok (.invokevirtual 274, 3) := by decide +kernel
theorem dX12_tellCode_6 : decode cX12_tellCode 6 = .ok (.ifCond .eq 22, 3) := by decide +kernel
theorem dX12_tellCode_9 : decode cX12_tellCode 9 = .ok (.aload_n 0, 1) := by decide +kernel
theorem dX12_tellCode_10 : decode cX12_tellCode 10 = .ok (.getfield 40, 3) := by decide +kernel
theorem dX12_tellCode_13 : decode cX12_tellCode 13 = .ok (.aload_n 0, 1) := by decide +kernel
theorem dX12_tellCode_14 : decode cX12_tellCode 14 = .ok (.getfield 286, 3) := by decide +kernel
theorem dX12_tellCode_17 : decode cX12_tellCode 17 = .ok (.iaload, 1) := by decide +kernel
theorem dX12_tellCode_18 : decode cX12_tellCode 18 = .ok (.bipush 8, 2) := by decide +kernel
theorem dX12_tellCode_20 : decode cX12_tellCode 20 = .ok (.if_icmp .ne 8, 3) := by decide +kernel
theorem dX12_tellCode_23 : decode cX12_tellCode 23 = .ok (.aload_n 0, 1) := by decide +kernel
theorem dX12_tellCode_24 : decode cX12_tellCode 24 = .ok (.iconst 2, 1) := by decide +kernel
theorem dX12_tellCode_25 : decode cX12_tellCode 25 = .ok (.invokevirtual 271, 3) := by decide +kernel
theorem dX12_tellCode_28 : decode cX12_tellCode 28 = .ok (.aload_n 0, 1) := by decide +kernel
theorem dX12_tellCode_29 : decode cX12_tellCode 29 = .ok (.bipush 20, 2) := by decide +kernel
theorem dX12_tellCode_31 : decode cX12_tellCode 31 = .ok (.invokevirtual 295, 3) := by decide +kernel
theorem dX12_tellCode_34 : decode cX12_tellCode 34 = .ok (.aload_n 0, 1) := by decide +kernel
theorem dX12_tellCode_35 : decode cX12_tellCode 35 = .ok (.getfield 259, 3) := by decide +kernel
theorem dX12_tellCode_38 : decode cX12_tellCode 38 = .ok (.istore_n 1, 1) := by decide +kernel
theorem dX12_tellCode_39 : decode cX12_tellCode 39 = .ok (.aload_n 0, 1) := by decide +kernel
theorem dX12_tellCode_40 : decode cX12_tellCode 40 = .ok (.iconst 1, 1) := by decide +kernel
theorem dX12_tellCode_41 : decode cX12_tellCode 41 = .ok (.invokevirtual 295, 3) := by decide +kernel
theorem dX12_tellCode_44 : decode cX12_tellCode 44 = .ok (.aload_n 0, 1) := by decide +kernel
theorem dX12_tellCode_45 : decode cX12_tellCode 45 = .ok (.getfield 256, 3) := by decide +kernel
theorem dX12_tellCode_48 : decode cX12_tellCode 48 = .ok (.ifCond .le 4, 3) := by decide +kernel
theorem dX12_tellCode_51 : decode cX12_tellCode 51 = .ok (.return_, 1) := by decide +kernel
theorem dX12_tellCode_52 : decode cX12_tellCode 52 = .ok (.bipush 8, 2) := by decide +kernel
theorem dX12_tellCode_54 : decode cX12_tellCode 54 = .ok (.aload_n 0, 1) := by decide +kernel
theorem dX12_tellCode_55 : decode cX12_tellCode 55 = .ok (.getfield 286, 3) := by decide +kernel
theorem dX12_tellCode_58 : decode cX12_tellCode 58 = .ok (.imul, 1) := by decide +kernel
theorem dX12_tellCode_59 : decode cX12_tellCode 59 = .ok (.aload_n 0, 1) := by decide +kernel
theorem dX12_tellCode_60 : decode cX12_tellCode 60 = .ok (.getfield 40, 3) := by decide +kernel
theorem dX12_tellCode_63 : decode cX12_tellCode 63 = .ok (.aload_n 0, 1) := by decide +kernel
theorem dX12_tellCode_64 : decode cX12_tellCode 64 = .ok (.getfield 286, 3) := by decide +kernel
theorem dX12_tellCode_67 : decode cX12_tellCode 67 = .ok (.iaload, 1) := by decide +kernel
theorem dX12_tellCode_68 : decode cX12_tellCode 68 = .ok (.iadd, 1) := by decide +kernel
theorem dX12_tellCode_69 : decode cX12_tellCode 69 = .ok (.istore_n 2, 1) := by decide +kernel
theorem dX12_tellCode_70 : decode cX12_tellCode 70 = .ok (.bipush 8, 2) := by decide +kernel
theorem dX12_tellCode_72 : decode cX12_tellCode 72 = .ok (.aload_n 0, 1) := by decide +kernel
theorem dX12_tellCode_73 : decode cX12_tellCode 73 = .ok (.getfield 286, 3) := by decide +kernel
theorem dX12_tellCode_76 : decode cX12_tellCode 76 = .ok (.imul, 1) := by decide +kernel
theorem dX12_tellCode_77 : decode cX12_tellCode 77 = .ok (.istore_n 3, 1) := by decide +kernel
theorem dX12_tellCode_78 : decode cX12_tellCode 78 = .ok (.iload_n 3, 1) := by decide +kernel
theorem dX12_tellCode_79 : decode cX12_tellCode 79 = .ok (.iload_n 2, 1) := by decide +kernel
theorem dX12_tellCode_80 : decode cX12_tellCode 80 = .ok (.if_icmp .ge 31, 3) := by decide +kernel
theorem dX12_tellCode_83 : decode cX12_tellCode 83 = .ok (.aload_n 0, 1) := by decide +kernel
theorem dX12_tellCode_84 : decode cX12_tellCode 84 = .ok (.getfield 43, 3) := by decide +kernel
theorem dX12_tellCode_87 : decode cX12_tellCode 87 = .ok (.iload_n 3, 1) := by decide +kernel
theorem dX12_tellCode_88 : decode cX12_tellCode 88 = .ok (.laload, 1) := by decide +kernel
theorem dX12_tellCode_89 : decode cX12_tellCode 89 = .ok (.aload_n 0, 1) := by decide +kernel
theorem dX12_tellCode_90 : decode cX12_tellCode 90 = .ok (.getfield 30, 3) := by decide +kernel
theorem dX12_tellCode_93 : decode cX12_tellCode 93 = .ok (.iload_n 1, 1) := by decide +kernel
theorem dX12_tellCode_94 : decode cX12_tellCode 94 = .ok (.laload, 1) := by decide +kernel
theorem dX12_tellCode_95 : decode cX12_tellCode 95 = .ok (.lcmp, 1) := by decide +kernel
theorem dX12_tellCode_96 : decode cX12_tellCode 96 = .ok (.ifCond .ne 9, 3) := by decide +kernel
theorem dX12_tellCode_99 : decode cX12_tellCode 99 = .ok (.aload_n 0, 1) := by decide +kernel
theorem dX12_tellCode_100 : decode cX12_tellCode 100 = .ok (.iconst 3, 1) := by decide +kernel
theorem dX12_tellCode_101 : decode cX12_tellCode 101 = .ok (.iload_n 1, 1) := by decide +kernel
theorem dX12_tellCode_102 : decode cX12_tellCode 102 = .ok (.invokevirtual 298, 3) := by decide +kernel
theorem dX12_tellCode_105 : decode cX12_tellCode 105 = .ok (.iinc 3 1, 3) := by decide +kernel
theorem dX12_tellCode_108 : decode cX12_tellCode 108 = .ok (.goto (-30), 3) := by decide +kernel
theorem dX12_tellCode_111 : decode cX12_tellCode 111 = .ok (.aload_n 0, 1) := by decide +kernel
theorem dX12_tellCode_112 : decode cX12_tellCode 112 = .ok (.getfield 43, 3) := by decide +kernel
theorem dX12_tellCode_115 : decode cX12_tellCode 115 = .ok (.iload_n 2, 1) := by decide +kernel
theorem dX12_tellCode_116 : decode cX12_tellCode 116 = .ok (.aload_n 0, 1) := by decide +kernel
theorem dX12_tellCode_117 : decode cX12_tellCode 117 = .ok (.getfield 30, 3) := by decide +kernel
theorem dX12_tellCode_120 : decode cX12_tellCode 120 = .ok (.iload_n 1, 1) := by decide +kernel
theorem dX12_tellCode_121 : decode cX12_tellCode 121 = .ok (.laload, 1) := by decide +kernel
theorem dX12_tellCode_122 : decode cX12_tellCode 122 = .ok (.lastore, 1) := by decide +kernel
theorem dX12_tellCode_123 : decode cX12_tellCode 123 = .ok (.aload_n 0, 1) := by decide +kernel
theorem dX12_tellCode_124 : decode cX12_tellCode 124 = .ok (.getfield 46, 3) := by decide +kernel
theorem dX12_tellCode_127 : decode cX12_tellCode 127 = .ok (.iload_n 2, 1) := by decide +kernel
theorem dX12_tellCode_128 : decode cX12_tellCode 128 = .ok (.aload_n 0, 1) := by decide +kernel
theorem dX12_tellCode_129 : decode cX12_tellCode 129 = .ok (.getfield 289, 3) := by decide +kernel
theorem dX12_tellCode_132 : decode cX12_tellCode 132 = .ok (.iastore, 1) := by decide +kernel
theorem dX12_tellCode_133 : decode cX12_tellCode 133 = .ok (.aload_n 0, 1) := by decide +kernel
theorem dX12_tellCode_134 : decode cX12_tellCode 134 = .ok (.iconst 1, 1) := by decide +kernel
theorem dX12_tellCode_135 : decode cX12_tellCode 135 = .ok (.putfield 302, 3) := by decide +kernel
theorem dX12_tellCode_138 : decode cX12_tellCode 138 = .ok (.aload_n 0, 1) := by decide +kernel
theorem dX12_tellCode_139 : decode cX12_tellCode 139 = .ok (.getfield 61, 3) := by decide +kernel
theorem dX12_tellCode_142 : decode cX12_tellCode 142 = .ok (.iconst 0, 1) := by decide +kernel
theorem dX12_tellCode_143 : decode cX12_tellCode 143 = .ok (.iconst 0, 1) := by decide +kernel
theorem dX12_tellCode_144 : decode cX12_tellCode 144 = .ok (.iastore, 1) := by decide +kernel
theorem dX12_tellCode_145 : decode cX12_tellCode 145 = .ok (.aload_n 0, 1) := by decide +kernel
theorem dX12_tellCode_146 : decode cX12_tellCode 146 = .ok (.getfield 256, 3) := by decide +kernel
theorem dX12_tellCode_149 : decode cX12_tellCode 149 = .ok (.ifCond .ne 17, 3) := by decide +kernel
theorem dX12_tellCode_152 : decode cX12_tellCode 152 = .ok (.aload_n 0, 1) := by decide +kernel
theorem dX12_tellCode_153 : decode cX12_tellCode 153 = .ok (.getfield 302, 3) := by decide +kernel
theorem dX12_tellCode_156 : decode cX12_tellCode 156 = .ok (.ifCond .le 10, 3) := by decide +kernel
theorem dX12_tellCode_159 : decode cX12_tellCode 159 = .ok (.aload_n 0, 1) := by decide +kernel
theorem dX12_tellCode_160 : decode cX12_tellCode 160 = .ok (.invokevirtual 305, 3) := by decide +kernel
theorem dX12_tellCode_163 : decode cX12_tellCode 163 = .ok (.goto (-18), 3) := by decide +kernel
theorem dX12_tellCode_166 : decode cX12_tellCode 166 = .ok (.aload_n 0, 1) := by decide +kernel
theorem dX12_tellCode_167 : decode cX12_tellCode 167 = .ok (.getfield 256, 3) := by decide +kernel
theorem dX12_tellCode_170 : decode cX12_tellCode 170 = .ok (.ifCond .ne 16, 3) := by decide +kernel
theorem dX12_tellCode_173 : decode cX12_tellCode 173 = .ok (.aload_n 0, 1) := by decide +kernel
theorem dX12_tellCode_174 : decode cX12_tellCode 174 = .ok (.getfield 40, 3) := by decide +kernel
theorem dX12_tellCode_177 : decode cX12_tellCode 177 = .ok (.aload_n 0, 1) := by decide +kernel
theorem dX12_tellCode_178 : decode cX12_tellCode 178 = .ok (.getfield 286, 3) := by decide +kernel
theorem dX12_tellCode_181 : decode cX12_tellCode 181 = .ok (.dup2, 1) := by decide +kernel
theorem dX12_tellCode_182 : decode cX12_tellCode 182 = .ok (.iaload, 1) := by decide +kernel
theorem dX12_tellCode_183 : decode cX12_tellCode 183 = .ok (.iconst 1, 1) := by decide +kernel
theorem dX12_tellCode_184 : decode cX12_tellCode 184 = .ok (.iadd, 1) := by decide +kernel
theorem dX12_tellCode_185 : decode cX12_tellCode 185 = .ok (.iastore, 1) := by decide +kernel
theorem dX12_tellCode_186 : decode cX12_tellCode 186 = .ok (.return_, 1) := by decide +kernel
abbrev rm_X12_tellCode : Room := { frames := 6, cells := 0, slots := 0, locals := 134 }
set_option maxRecDepth 100000 in
set_option maxHeartbeats 4000000 in
theorem ct_X12_tellCode {w : Wd} {l : Launch} {σ : St} {σ' : St} (h : m_X12_tellCode σ = some σ') : Ct w l yX12_tellCode (Cond.code yX12_tellCode cX12_tellCode 4 none :: TB) rm_X12_tellCode [rv w 170] σ none True σ' := by
  refine Ct.of2 [some (rv w 170), none, none, none] 3 rfl pn_RX12 (Nat.le_of_ble_eq_true rfl) ?_
  intro p e s m args below meth c C hr hlk
  unfold m_X12_tellCode at h
  refine g_aload_n C dX12_tellCode_0 rfl ?_
  refine g_bipush C dX12_tellCode_1 rfl ?_
  obtain ⟨x1, qx1, h⟩ := bnd h
  refine g_callV1 (As := [iv 20]) C dX12_tellCode_3 mi_X12_is ml_12_274 (ct_X12_is (by decide) qx1) rfl rfl ⟨rfl, rfl⟩ ⟨Nat.le_of_ble_eq_true rfl, Nat.le_of_ble_eq_true rfl⟩ ⟨Nat.zero_le _, Nat.zero_le _⟩ rfl (Nat.le_of_ble_eq_true rfl) (fun ix1 => ?_)
  have hJ28_47 : ∀ (σ7 : St) , m_X12_tellCode_J28 σ7 = some σ' → GM w p l e rm_X12_tellCode s m args below meth c none True σ' 4 28 [some (rv w 170), none, none, none] [] σ7 := by
    intro σ7 h
    unfold m_X12_tellCode_J28 at h
    refine g_aload_n C dX12_tellCode_28 rfl ?_
    refine g_bipush C dX12_tellCode_29 rfl ?_
    obtain ⟨σ8, qσ8, h⟩ := bnd h
    refine g_callV0 (As := [iv 20]) C dX12_tellCode_31 mi_X12_must ml_12_295 (ct_X12_must (by decide) qσ8) rfl rfl ⟨rfl, rfl⟩ ⟨Nat.le_of_ble_eq_true rfl, Nat.le_of_ble_eq_true rfl⟩ ⟨Nat.zero_le _, Nat.zero_le _⟩ rfl (Nat.le_of_ble_eq_true rfl) (fun _ => ?_)
    refine g_aload_n C dX12_tellCode_34 rfl ?_
    refine g_getI (j := 11) C dX12_tellCode_35 rfl (Nat.le_of_ble_eq_true rfl) (Nat.le_of_ble_eq_true rfl) fl_12_259 rfl rfl (fun i9 => ?_)
    refine g_istore_n (L1 := [some (rv w 170), some (iv (σ8 170 11)), none, none]) C dX12_tellCode_38 rfl (Nat.le_of_ble_eq_true rfl) rfl ?_
    refine g_aload_n C dX12_tellCode_39 rfl ?_
    refine g_iconst C dX12_tellCode_40 ?_
    obtain ⟨σ10, qσ10, h⟩ := bnd h
    refine g_callV0 (As := [iv 1]) C dX12_tellCode_41 mi_X12_must ml_12_295 (ct_X12_must (by decide) qσ10) rfl rfl ⟨rfl, rfl⟩ ⟨Nat.le_of_ble_eq_true rfl, Nat.le_of_ble_eq_true rfl⟩ ⟨Nat.zero_le _, Nat.zero_le _⟩ rfl (Nat.le_of_ble_eq_true rfl) (fun _ => ?_)
    refine g_aload_n C dX12_tellCode_44 rfl ?_
    refine g_getI (j := 12) C dX12_tellCode_45 rfl (Nat.le_of_ble_eq_true rfl) (Nat.le_of_ble_eq_true rfl) fl_12_256 rfl rfl (fun i11 => ?_)
    refine g_if_le C dX12_tellCode_48 i11 rfl (tgt := 52) (fun c12 => ?_) (fun c12 => ?_)
    · have h := ifT c12 h
      refine g_bipush C dX12_tellCode_52 rfl ?_
      refine g_aload_n C dX12_tellCode_54 rfl ?_
      refine g_getI (j := 18) C dX12_tellCode_55 rfl (Nat.le_of_ble_eq_true rfl) (Nat.le_of_ble_eq_true rfl) fl_12_286 rfl rfl (fun i13 => ?_)
      refine g_imul C dX12_tellCode_58 ?_
      refine g_aload_n C dX12_tellCode_59 rfl ?_
      refine g_getR (j := 19) C dX12_tellCode_60 rfl (Nat.le_of_ble_eq_true rfl) (Nat.le_of_ble_eq_true rfl) fl_12_40 rfl rfl (r := 178) rfl ?_
      refine g_aload_n C dX12_tellCode_63 rfl ?_
      refine g_getI (j := 18) C dX12_tellCode_64 rfl (Nat.le_of_ble_eq_true rfl) (Nat.le_of_ble_eq_true rfl) fl_12_286 rfl rfl (fun i14 => ?_)
      obtain ⟨x15, qx15, h⟩ := bnd h
      refine g_iald C dX12_tellCode_67 rfl rfl qx15 i14 (fun ix15 => ?_)
      refine g_iadd C dX12_tellCode_68 ?_
      obtain ⟨x16, qx16, h⟩ := bnd h
      have qx16 := Option.some.inj qx16
      have ix16 : InI x16 := by rw [← qx16]; exact (iwr _)
      refine g_E qx16 ?_
      refine g_istore_n (L1 := [some (rv w 170), some (iv (σ8 170 11)), some (iv x16), none]) C dX12_tellCode_69 rfl (Nat.le_of_ble_eq_true rfl) rfl ?_
      refine g_bipush C dX12_tellCode_70 rfl ?_
      refine g_aload_n C dX12_tellCode_72 rfl ?_
      refine g_getI (j := 18) C dX12_tellCode_73 rfl (Nat.le_of_ble_eq_true rfl) (Nat.le_of_ble_eq_true rfl) fl_12_286 rfl rfl (fun i17 => ?_)
      refine g_imul C dX12_tellCode_76 ?_
      obtain ⟨x18, qx18, h⟩ := bnd h
      have qx18 := Option.some.inj qx18
      have ix18 : InI x18 := by rw [← qx18]; exact (iwr _)
      refine g_E qx18 ?_
      refine g_istore_n (L1 := [some (rv w 170), some (iv (σ8 170 11)), some (iv x16), some (iv x18)]) C dX12_tellCode_77 rfl (Nat.le_of_ble_eq_true rfl) rfl ?_
      obtain ⟨b19, hb19, hF19⟩ := bnd h
      have hX19 : ∀ (σ27 : St) , σ27 = b19 → GM w p l e rm_X12_tellCode s m args below meth c none True σ' 4 111 [some (rv w 170), some (iv (σ8 170 11)), some (iv x16), none] [] σ27 := by
        intro σ27 q
        subst q
        have h := hF19
        refine g_aload_n C dX12_tellCode_111 rfl ?_
        refine g_getR (j := 20) C dX12_tellCode_112 rfl (Nat.le_of_ble_eq_true rfl) (Nat.le_of_ble_eq_true rfl) fl_12_43 rfl rfl (r := 179) rfl ?_
        refine g_iload_n C dX12_tellCode_115 rfl ?_
        refine g_aload_n C dX12_tellCode_116 rfl ?_
        refine g_getR (j := 8) C dX12_tellCode_117 rfl (Nat.le_of_ble_eq_true rfl) (Nat.le_of_ble_eq_true rfl) fl_12_30 rfl rfl (r := 176) rfl ?_
        refine g_iload_n C dX12_tellCode_120 rfl ?_
        obtain ⟨x28, qx28, h⟩ := bnd h
        refine g_lald C dX12_tellCode_121 rfl rfl qx28 i9 (fun ix28 => ?_)
        obtain ⟨σ29, qσ29, h⟩ := bnd h
        refine g_last C dX12_tellCode_122 rfl rfl qσ29 ix16 ix28 ?_
        refine g_aload_n C dX12_tellCode_123 rfl ?_
        refine g_getR (j := 21) C dX12_tellCode_124 rfl (Nat.le_of_ble_eq_true rfl) (Nat.le_of_ble_eq_true rfl) fl_12_46 rfl rfl (r := 180) rfl ?_
        refine g_iload_n C dX12_tellCode_127 rfl ?_
        refine g_aload_n C dX12_tellCode_128 rfl ?_
        refine g_getI (j := 22) C dX12_tellCode_129 rfl (Nat.le_of_ble_eq_true rfl) (Nat.le_of_ble_eq_true rfl) fl_12_289 rfl rfl (fun i30 => ?_)
        obtain ⟨σ31, qσ31, h⟩ := bnd h
        refine g_iast C dX12_tellCode_132 rfl rfl qσ31 ix16 i30 ?_
        refine g_aload_n C dX12_tellCode_133 rfl ?_
        refine g_iconst C dX12_tellCode_134 ?_
        obtain ⟨σ32, qσ32, h⟩ := bnd h
        refine g_putI (j := 27) C dX12_tellCode_135 rfl (Nat.le_of_ble_eq_true rfl) (Nat.le_of_ble_eq_true rfl) fl_12_302 rfl rfl rfl rfl qσ32 (by decide) ?_
        refine g_aload_n C dX12_tellCode_138 rfl ?_
        refine g_getR (j := 28) C dX12_tellCode_139 rfl (Nat.le_of_ble_eq_true rfl) (Nat.le_of_ble_eq_true rfl) fl_12_61 rfl rfl (r := 185) rfl ?_
        refine g_iconst C dX12_tellCode_142 ?_
        refine g_iconst C dX12_tellCode_143 ?_
        obtain ⟨σ33, qσ33, h⟩ := bnd h
        refine g_iast C dX12_tellCode_144 rfl rfl qσ33 (by decide) (by decide) ?_
        refine g_mask [true, false, false, true] ?_
        obtain ⟨b34, hb34, hF34⟩ := bnd h
        have hX34 : ∀ (σ41 : St) , σ41 = b34 → GM w p l e rm_X12_tellCode s m args below meth c none True σ' 4 166 [some (rv w 170), none, none, none] [] σ41 := by
          intro σ41 q
          subst q
          have h := hF34
          refine g_aload_n C dX12_tellCode_166 rfl ?_
          refine g_getI (j := 12) C dX12_tellCode_167 rfl (Nat.le_of_ble_eq_true rfl) (Nat.le_of_ble_eq_true rfl) fl_12_256 rfl rfl (fun i42 => ?_)
          refine g_if_ne C dX12_tellCode_170 i42 rfl (tgt := 186) (fun c43 => ?_) (fun c43 => ?_)
          · have h := ifF c43 h
            exact g_vretP C dX12_tellCode_186 hr hlk h
          · have h := ifT c43 h
            refine g_aload_n C dX12_tellCode_173 rfl ?_
            refine g_getR (j := 19) C dX12_tellCode_174 rfl (Nat.le_of_ble_eq_true rfl) (Nat.le_of_ble_eq_true rfl) fl_12_40 rfl rfl (r := 178) rfl ?_
            refine g_aload_n C dX12_tellCode_177 rfl ?_
            refine g_getI (j := 18) C dX12_tellCode_178 rfl (Nat.le_of_ble_eq_true rfl) (Nat.le_of_ble_eq_true rfl) fl_12_286 rfl rfl (fun i44 => ?_)
            refine g_dup2 C dX12_tellCode_181 rfl rfl ?_
            obtain ⟨x45, qx45, h⟩ := bnd h
            refine g_iald C dX12_tellCode_182 rfl rfl qx45 i44 (fun ix45 => ?_)
            refine g_iconst C dX12_tellCode_183 ?_
            refine g_iadd C dX12_tellCode_184 ?_
            obtain ⟨σ46, qσ46, h⟩ := bnd h
            refine g_iast C dX12_tellCode_185 rfl rfl qσ46 i44 (iwr _) ?_
            exact g_vretP C dX12_tellCode_186 hr hlk h
        have hL34 : ∀ (n : Nat) (σ35 : St) , lpN (fun a => m_X12_tellCode_L145 a) n σ35 = some b34 → GM w p l e rm_X12_tellCode s m args below meth c none True σ' 4 145 [some (rv w 170), none, none, none] [] σ35 := by
          intro n
          induction n with
          | zero => intro σ35 q; cases q
          | succ n ih34 =>
            intro σ35 q
            obtain ⟨o34, h, hk34⟩ := lp_step q
            replace h : m_X12_tellCode_L145 σ35 = some o34 := h
            unfold m_X12_tellCode_L145 at h
            refine g_aload_n C dX12_tellCode_145 rfl ?_
            refine g_getI (j := 12) C dX12_tellCode_146 rfl (Nat.le_of_ble_eq_true rfl) (Nat.le_of_ble_eq_true rfl) fl_12_256 rfl rfl (fun i36 => ?_)
            refine g_if_ne C dX12_tellCode_149 i36 rfl (tgt := 166) (fun c37 => ?_) (fun c37 => ?_)
            · have h := ifF c37 h
              obtain rfl := Option.some.inj h
              exact hX34 σ35 (lpR hk34).symm
            · have h := ifT c37 h
              refine g_aload_n C dX12_tellCode_152 rfl ?_
              refine g_getI (j := 27) C dX12_tellCode_153 rfl (Nat.le_of_ble_eq_true rfl) (Nat.le_of_ble_eq_true rfl) fl_12_302 rfl rfl (fun i38 => ?_)
              refine g_if_le C dX12_tellCode_156 i38 rfl (tgt := 166) (fun c39 => ?_) (fun c39 => ?_)
              · have h := ifT c39 h
                obtain rfl := Option.some.inj h
                exact hX34 σ35 (lpR hk34).symm
              · have h := ifF c39 h
                refine g_aload_n C dX12_tellCode_159 rfl ?_
                obtain ⟨σ40, qσ40, h⟩ := bnd h
                refine g_callV0 (As := []) C dX12_tellCode_160 mi_X12_tellDeed ml_12_305 (ct_X12_tellDeed qσ40) rfl rfl ⟨rfl, rfl⟩ ⟨Nat.le_of_ble_eq_true rfl, Nat.le_of_ble_eq_true rfl⟩ ⟨Nat.zero_le _, Nat.zero_le _⟩ rfl (Nat.le_of_ble_eq_true rfl) (fun _ => ?_)
                refine g_goto C dX12_tellCode_163 rfl (tgt := 145) ?_
                obtain rfl := Option.some.inj h
                exact ih34 _ (lpL hk34)
        exact hL34 FU _ hb34
      have hL19 : ∀ (n : Nat) (x20 : Int) (σ21 : St) , InI x20 → lpN (fun a => m_X12_tellCode_L78 x16 σ8 a.1 a.2) n (x20, σ21) = some b19 → GM w p l e rm_X12_tellCode s m args below meth c none True σ' 4 78 [some (rv w 170), some (iv (σ8 170 11)), some (iv x16), some (iv x20)] [] σ21 := by
        intro n
        induction n with
        | zero => intro x20 σ21 ix20 q; cases q
        | succ n ih19 =>
          intro x20 σ21 ix20 q
          obtain ⟨o19, h, hk19⟩ := lp_step q
          replace h : m_X12_tellCode_L78 x16 σ8 x20 σ21 = some o19 := h
          unfold m_X12_tellCode_L78 at h
          refine g_iload_n C dX12_tellCode_78 rfl ?_
          refine g_iload_n C dX12_tellCode_79 rfl ?_
          refine g_icmp_ge C dX12_tellCode_80 ix20 ix16 rfl (tgt := 111) (fun c22 => ?_) (fun c22 => ?_)
          · have h := ifT c22 h
            refine g_mask [true, true, true, false] ?_
            obtain rfl := Option.some.inj h
            exact hX19 σ21 (lpR hk19).symm
          · have h := ifF c22 h
            refine g_aload_n C dX12_tellCode_83 rfl ?_
            refine g_getR (j := 20) C dX12_tellCode_84 rfl (Nat.le_of_ble_eq_true rfl) (Nat.le_of_ble_eq_true rfl) fl_12_43 rfl rfl (r := 179) rfl ?_
            refine g_iload_n C dX12_tellCode_87 rfl ?_
            obtain ⟨x23, qx23, h⟩ := bnd h
            refine g_lald C dX12_tellCode_88 rfl rfl qx23 ix20 (fun ix23 => ?_)
            refine g_aload_n C dX12_tellCode_89 rfl ?_
            refine g_getR (j := 8) C dX12_tellCode_90 rfl (Nat.le_of_ble_eq_true rfl) (Nat.le_of_ble_eq_true rfl) fl_12_30 rfl rfl (r := 176) rfl ?_
            refine g_iload_n C dX12_tellCode_93 rfl ?_
            obtain ⟨x24, qx24, h⟩ := bnd h
            refine g_lald C dX12_tellCode_94 rfl rfl qx24 i9 (fun ix24 => ?_)
            refine g_lcmp C dX12_tellCode_95 ix23 ix24 ?_
            refine g_if_ne C dX12_tellCode_96 (ilcI _ _) rfl (tgt := 105) (fun c25 => ?_) (fun c25 => ?_)
            · have h := ifF c25 h
              refine g_iinc (L1 := [some (rv w 170), some (iv (σ8 170 11)), some (iv x16), some (iv (wr (x20 + 1)))]) C dX12_tellCode_105 rfl rfl (Nat.le_of_ble_eq_true rfl) rfl ?_
              refine g_goto C dX12_tellCode_108 rfl (tgt := 78) ?_
              obtain rfl := Option.some.inj h
              exact ih19 _ _ (iwr _) (lpL hk19)
            · have h := ifT c25 h
              refine g_aload_n C dX12_tellCode_99 rfl ?_
              refine g_iconst C dX12_tellCode_100 ?_
              refine g_iload_n C dX12_tellCode_101 rfl ?_
              obtain ⟨σ26, qσ26, h⟩ := bnd h
              refine g_callV0 (As := [iv 3, iv (σ8 170 11)]) C dX12_tellCode_102 mi_X12_wrong ml_12_298 (ct_X12_wrong (by decide) i9 qσ26) rfl rfl ⟨rfl, rfl⟩ ⟨Nat.le_of_ble_eq_true rfl, Nat.le_of_ble_eq_true rfl⟩ ⟨Nat.zero_le _, Nat.zero_le _⟩ rfl (Nat.le_of_ble_eq_true rfl) (fun _ => ?_)
              refine g_iinc (L1 := [some (rv w 170), some (iv (σ8 170 11)), some (iv x16), some (iv (wr (x20 + 1)))]) C dX12_tellCode_105 rfl rfl (Nat.le_of_ble_eq_true rfl) rfl ?_
              refine g_goto C dX12_tellCode_108 rfl (tgt := 78) ?_
              obtain rfl := Option.some.inj h
              exact ih19 _ _ (iwr _) (lpL hk19)
      exact hL19 FU _ _ ix18 hb19
    · have h := ifF c12 h
      exact g_vretP C dX12_tellCode_51 hr hlk h
  refine g_if_eq C dX12_tellCode_6 (zI ix1) rfl (tgt := 28) (fun c2 => ?_) (fun c2 => ?_)
  · have h := ifT c2 h
    exact hJ28_47 σ h
  · have h := ifF c2 h
    refine g_aload_n C dX12_tellCode_9 rfl ?_
    refine g_getR (j := 19) C dX12_tellCode_10 rfl (Nat.le_of_ble_eq_true rfl) (Nat.le_of_ble_eq_true rfl) fl_12_40 rfl rfl (r := 178) rfl ?_
    refine g_aload_n C dX12_tellCode_13 rfl ?_
    refine g_getI (j := 18) C dX12_tellCode_14 rfl (Nat.le_of_ble_eq_true rfl) (Nat.le_of_ble_eq_true rfl) fl_12_286 rfl rfl (fun i3 => ?_)
    obtain ⟨x4, qx4, h⟩ := bnd h
    refine g_iald C dX12_tellCode_17 rfl rfl qx4 i3 (fun ix4 => ?_)
    refine g_bipush C dX12_tellCode_18 rfl ?_
    refine g_icmp_ne C dX12_tellCode_20 ix4 (by decide) rfl (tgt := 28) (fun c5 => ?_) (fun c5 => ?_)
    · have h := ifF c5 h
      exact hJ28_47 σ h
    · have h := ifT c5 h
      refine g_aload_n C dX12_tellCode_23 rfl ?_
      refine g_iconst C dX12_tellCode_24 ?_
      obtain ⟨σ6, qσ6, h⟩ := bnd h
      refine g_callV0 (As := [iv 2]) C dX12_tellCode_25 mi_X12_fail ml_12_271 (ct_X12_fail (by decide) qσ6) rfl rfl ⟨rfl, rfl⟩ ⟨Nat.le_of_ble_eq_true rfl, Nat.le_of_ble_eq_true rfl⟩ ⟨Nat.zero_le _, Nat.zero_le _⟩ rfl (Nat.le_of_ble_eq_true rfl) (fun _ => ?_)
      exact hJ28_47 σ6 h
theorem dX12_read_0 : decode cX12_read 0 = .ok (.aload_n 0, 1) := by decide +kernel
theorem dX12_read_1 : decode cX12_read 1 = .ok (.iconst 0, 1) := by decide +kernel
theorem dX12_read_2 : decode cX12_read 2 = .ok (.putfield 1, 3) := by decide +kernel
theorem dX12_read_5 : decode cX12_read 5 = .ok (.aload_n 0, 1) := by decide +kernel
theorem dX12_read_6 : decode cX12_read 6 = .ok (.aload_n 0, 1) := by decide +kernel
theorem dX12_read_7 : decode cX12_read 7 = .ok (.getfield 222, 3) := by decide +kernel
theorem dX12_read_10 : decode cX12_read 10 = .ok (.putfield 229, 3) := by decide +kernel
theorem dX12_read_13 : decode cX12_read 13 = .ok (.iconst 0, 1) := by decide +kernel
theorem dX12_read_14 : decode cX12_read 14 = .ok (.istore_n 1, 1) := by decide +kernel
theorem dX12_read_15 : decode cX12_read 15 = .ok (.iload_n 1, 1) := by decide +kernel
theorem dX12_read_16 : decode cX12_read 16 = .ok (.aload_n 0, 1) := by decide +kernel
theorem dX12_read_17 : decode cX12_read 17 = .ok (.getfield 229, 3) := by decide +kernel
theorem dX12_read_20 : decode cX12_read 20 = .ok (.if_icmp .ge 21, 3) := by decide +kernel
theorem dX12_read_23 : decode cX12_read 23 = .ok (.aload_n 0, 1) := by decide +kernel
theorem dX12_read_24 : decode cX12_read 24 = .ok (.getfield 17, 3) := by decide +kernel
theorem dX12_read_27 : decode cX12_read 27 = .ok (.iload_n 1, 1) := by decide +kernel
theorem dX12_read_28 : decode cX12_read 28 = .ok (.aload_n 0, 1) := by decide +kernel
theorem dX12_read_29 : decode cX12_read 29 = .ok (.getfield 13, 3) := by decide +kernel
theorem dX12_read_32 : decode cX12_read 32 = .ok (.iload_n 1, 1) := by decide +kernel
theorem dX12_read_33 : decode cX12_read 33 = .ok (.baload, 1) := by decide +kernel
theorem dX12_read_34 : decode cX12_read 34 = .ok (.bastore, 1) := by decide +kernel
theorem dX12_read_35 : decode cX12_read 35 = .ok (.iinc 1 1, 3) := by decide +kernel
theorem dX12_read_38 : decode cX12_read 38 = .ok (.goto (-23), 3) := by decide +kernel
theorem dX12_read_41 : decode cX12_read 41 = .ok (.aload_n 0, 1) := by decide +kernel
theorem dX12_read_42 : decode cX12_read 42 = .ok (.iconst 0, 1) := by decide +kernel
theorem dX12_read_43 : decode cX12_read 43 = .ok (.putfield 222, 3) := by decide +kernel
theorem dX12_read_46 : decode cX12_read 46 = .ok (.aload_n 0, 1) := by decide +kernel
theorem dX12_read_47 : decode cX12_read 47 = .ok (.invokevirtual 280, 3) := by decide +kernel
theorem dX12_read_50 : decode cX12_read 50 = .ok (.aload_n 0, 1) := by decide +kernel
theorem dX12_read_51 : decode cX12_read 51 = .ok (.iconst 0, 1) := by decide +kernel
theorem dX12_read_52 : decode cX12_read 52 = .ok (.putfield 259, 3) := by decide +kernel
theorem dX12_read_55 : decode cX12_read 55 = .ok (.aload_n 0, 1) := by decide +kernel
theorem dX12_read_56 : decode cX12_read 56 = .ok (.iconst 0, 1) := by decide +kernel
theorem dX12_read_57 : decode cX12_read 57 = .ok (.putfield 256, 3) := by decide +kernel
theorem dX12_read_60 : decode cX12_read 60 = .ok (.aload_n 0, 1) := by decide +kernel
theorem dX12_read_61 : decode cX12_read 61 = .ok (.iconst 0, 1) := by decide +kernel
theorem dX12_read_62 : decode cX12_read 62 = .ok (.putfield 265, 3) := by decide +kernel
theorem dX12_read_65 : decode cX12_read 65 = .ok (.aload_n 0, 1) := by decide +kernel
theorem dX12_read_66 : decode cX12_read 66 = .ok (.iconst 1, 1) := by decide +kernel
theorem dX12_read_67 : decode cX12_read 67 = .ok (.aload_n 0, 1) := by decide +kernel
theorem dX12_read_68 : decode cX12_read 68 = .ok (.getfield 283, 3) := by decide +kernel
theorem dX12_read_71 : decode cX12_read 71 = .ok (.isub, 1) := by decide +kernel
theorem dX12_read_72 : decode cX12_read 72 = .ok (.putfield 286, 3) := by decide +kernel
theorem dX12_read_75 : decode cX12_read 75 = .ok (.aload_n 0, 1) := by decide +kernel
theorem dX12_read_76 : decode cX12_read 76 = .ok (.getfield 40, 3) := by decide +kernel
theorem dX12_read_79 : decode cX12_read 79 = .ok (.aload_n 0, 1) := by decide +kernel
theorem dX12_read_80 : decode cX12_read 80 = .ok (.getfield 286, 3) := by decide +kernel
theorem dX12_read_83 : decode cX12_read 83 = .ok (.iconst 0, 1) := by decide +kernel
theorem dX12_read_84 : decode cX12_read 84 = .ok (.iastore, 1) := by decide +kernel
theorem dX12_read_85 : decode cX12_read 85 = .ok (.aload_n 0, 1) := by decide +kernel
theorem dX12_read_86 : decode cX12_read 86 = .ok (.sipush 1000, 3) := by decide +kernel
theorem dX12_read_89 : decode cX12_read 89 = .ok (.aload_n 0, 1) := by decide +kernel
theorem dX12_read_90 : decode cX12_read 90 = .ok (.getfield 286, 3) := by decide +kernel
theorem dX12_read_93 : decode cX12_read 93 = .ok (.imul, 1) := by decide +kernel
theorem dX12_read_94 : decode cX12_read 94 = .ok (.putfield 289, 3) := by decide +kernel
theorem dX12_read_97 : decode cX12_read 97 = .ok (.aload_n 0, 1) := by decide +kernel
theorem dX12_read_98 : decode cX12_read 98 = .ok (.getfield 256, 3) := by decide +kernel
theorem dX12_read_101 : decode cX12_read 101 = .ok (.ifCond .ne 18, 3) := by decide +kernel
theorem dX12_read_104 : decode cX12_read 104 = .ok (.aload_n 0, 1) := by decide +kernel
theorem dX12_read_105 : decode cX12_read 105 = .ok (.iconst 0, 1) := by decide +kernel
theorem dX12_read_106 : decode cX12_read 106 = .ok (.invokevirtual 274, 3) := by decide +kernel
theorem dX12_read_109 : decode cX12_read 109 = .ok (.ifCond .ne 10, 3) := by decide +kernel
theorem dX12_read_112 : decode cX12_read 112 = .ok (.aload_n 0, 1) := by decide +kernel
theorem dX12_read_113 : decode cX12_read 113 = .ok (.invokevirtual 292, 3) := by decide +kernel
theorem dX12_read_116 : decode cX12_read 116 = .ok (.goto (-19), 3) := by decide +kernel
theorem dX12_read_119 : decode cX12_read 119 = .ok (.aload_n 0, 1) := by decide +kernel
theorem dX12_read_120 : decode cX12_read 120 = .ok (.aload_n 0, 1) := by decide +kernel
theorem dX12_read_121 : decode cX12_read 121 = .ok (.getfield 256, 3) := by decide +kernel
theorem dX12_read_124 : decode cX12_read 124 = .ok (.ifCond .le 10, 3) := by decide +kernel
theorem dX12_read_127 : decode cX12_read 127 = .ok (.aload_n 0, 1) := by decide +kernel
theorem dX12_read_128 : decode cX12_read 128 = .ok (.getfield 262, 3) := by decide +kernel
theorem dX12_read_131 : decode cX12_read 131 = .ok (.goto 18, 3) := by decide +kernel
theorem dX12_read_134 : decode cX12_read 134 = .ok (.aload_n 0, 1) := by decide +kernel
theorem dX12_read_135 : decode cX12_read 135 = .ok (.getfield 265, 3) := by decide +kernel
theorem dX12_read_138 : decode cX12_read 138 = .ok (.ifCond .le 10, 3) := by decide +kernel
theorem dX12_read_141 : decode cX12_read 141 = .ok (.aload_n 0, 1) := by decide +kernel
theorem dX12_read_142 : decode cX12_read 142 = .ok (.getfield 268, 3) := by decide +kernel
theorem dX12_read_145 : decode cX12_read 145 = .ok (.goto 4, 3) := by decide +kernel
theorem dX12_read_148 : decode cX12_read 148 = .ok (.iconst (-1), 1) := by decide +kernel
theorem dX12_read_149 : decode cX12_read 149 = .ok (.putfield 37, 3) := by decide +kernel
theorem dX12_read_152 : decode cX12_read 152 = .ok (.aload_n 0, 1) := by decide +kernel
theorem dX12_read_153 : decode cX12_read 153 = .ok (.getfield 256, 3) := by decide +kernel
theorem dX12_read_156 : decode cX12_read 156 = .ok (.ifCond .le 8, 3) := by decide +kernel
theorem dX12_read_159 : decode cX12_read 159 = .ok (.aload_n 0, 1) := by decide +kernel
theorem dX12_read_160 : decode cX12_read 160 = .ok (.getfield 256, 3) := by decide +kernel
theorem dX12_read_163 : decode cX12_read 163 = .ok (.ireturn, 1) := by decide +kernel
theorem dX12_read_164 : decode cX12_read 164 = .ok (.aload_n 0, 1) := by decide +kernel
theorem dX12_read_165 : decode cX12_read 165 = .ok (.getfield 265, 3) := by decide +kernel
theorem dX12_read_168 : decode cX12_read 168 = .ok (.ifCond .le 8, 3) := by decide +kernel
theorem dX12_read_171 : decode cX12_read 171 = .ok (.aload_n 0, 1) := by decide +kernel
theorem dX12_read_172 : decode cX12_read 172 = .ok (.getfield 265, 3) := by decide +kernel
theorem dX12_read_175 : decode cX12_read 175 = .ok (.ireturn, 1) := by decide +kernel
theorem dX12_read_176 : decode cX12_read 176 = .ok (.aload_n 0, 1) := by decide +kernel
theorem dX12_read_177 : decode cX12_read 177 = .ok (.aload_n 0, 1) := by decide +kernel
theorem dX12_read_178 : decode cX12_read 178 = .ok (.getfield 286, 3) := by decide +kernel
theorem dX12_read_181 : decode cX12_read 181 = .ok (.putfield 283, 3) := by decide +kernel
theorem dX12_read_184 : decode cX12_read 184 = .ok (.iconst 0, 1) := by decide +kernel
theorem dX12_read_185 : decode cX12_read 185 = .ok (.istore_n 1, 1) := by decide +kernel
theorem dX12_read_186 : decode cX12_read 186 = .ok (.iload_n 1, 1) := by decide +kernel
theorem dX12_read_187 : decode cX12_read 187 = .ok (.bipush 8, 2) := by decide +kernel
theorem dX12_read_189 : decode cX12_read 189 = .ok (.if_icmp .ge 16, 3) := by decide +kernel
theorem dX12_read_192 : decode cX12_read 192 = .ok (.aload_n 0, 1) := by decide +kernel
theorem dX12_read_193 : decode cX12_read 193 = .ok (.getfield 82, 3) := by decide +kernel
theorem dX12_read_196 : decode cX12_read 196 = .ok (.iload_n 1, 1) := by decide +kernel
theorem dX12_read_197 : decode cX12_read 197 = .ok (.iconst (-1), 1) := by decide +kernel
theorem dX12_read_198 : decode cX12_read 198 = .ok (.iastore, 1) := by decide +kernel
theorem dX12_read_199 : decode cX12_read 199 = .ok (.iinc 1 1, 3) := by decide +kernel
theorem dX12_read_202 : decode cX12_read 202 = .ok (.goto (-16), 3) := by decide +kernel
theorem dX12_read_205 : decode cX12_read 205 = .ok (.iconst 0, 1) := by decide +kernel
theorem dX12_read_206 : decode cX12_read 206 = .ok (.ireturn, 1) := by decide +kernel
abbrev rm_X12_read : Room := { frames := 7, cells := 0, slots := 0, locals := 157 }
set_option maxRecDepth 100000 in
set_option maxHeartbeats 4000000 in
theorem ct_X12_read {w : Wd} {l : Launch} {σ : St} {y : Int} {σ' : St} (h : m_X12_read σ = some (y, σ')) : Ct w l yX12_read (Cond.code yX12_read cX12_read 2 (some .int) :: TB) rm_X12_read [rv w 170] σ (some (iv y)) (InI y) σ' := by
  refine Ct.of2 [some (rv w 170), none] 1 rfl pn_RX12 (Nat.le_of_ble_eq_true rfl) ?_
  intro p e s m args below meth c C hr hlk
  unfold m_X12_read at h
  refine g_aload_n C dX12_read_0 rfl ?_
  refine g_iconst C dX12_read_1 ?_
  obtain ⟨σ1, qσ1, h⟩ := bnd h
  refine g_putI (j := 0) C dX12_read_2 rfl (Nat.le_of_ble_eq_true rfl) (Nat.le_of_ble_eq_true rfl) fl_12_1 rfl rfl rfl rfl qσ1 (by decide) ?_
  refine g_aload_n C dX12_read_5 rfl ?_
  refine g_aload_n C dX12_read_6 rfl ?_
  refine g_getI (j := 2) C dX12_read_7 rfl (Nat.le_of_ble_eq_true rfl) (Nat.le_of_ble_eq_true rfl) fl_12_222 rfl rfl (fun i2 => ?_)
  obtain ⟨σ3, qσ3, h⟩ := bnd h
  refine g_putI (j := 4) C dX12_read_10 rfl (Nat.le_of_ble_eq_true rfl) (Nat.le_of_ble_eq_true rfl) fl_12_229 rfl rfl rfl rfl qσ3 i2 ?_
  refine g_iconst C dX12_read_13 ?_
  refine g_istore_n (L1 := [some (rv w 170), some (iv 0)]) C dX12_read_14 rfl (Nat.le_of_ble_eq_true rfl) rfl ?_
  obtain ⟨b4, hb4, hF4⟩ := bnd h
  have hX4 : ∀ (σ11 : St) , σ11 = b4 → GM w p l e rm_X12_read s m args below meth c (some (iv y)) (InI y) σ' 2 41 [some (rv w 170), none] [] σ11 := by
    intro σ11 q
    subst q
    have h := hF4
    refine g_aload_n C dX12_read_41 rfl ?_
    refine g_iconst C dX12_read_42 ?_
    obtain ⟨σ12, qσ12, h⟩ := bnd h
    refine g_putI (j := 2) C dX12_read_43 rfl (Nat.le_of_ble_eq_true rfl) (Nat.le_of_ble_eq_true rfl) fl_12_222 rfl rfl rfl rfl qσ12 (by decide) ?_
    refine g_aload_n C dX12_read_46 rfl ?_
    obtain ⟨σ13, qσ13, h⟩ := bnd h
    refine g_callV0 (As := []) C dX12_read_47 mi_X12_cut ml_12_280 (ct_X12_cut qσ13) rfl rfl ⟨rfl, rfl⟩ ⟨Nat.le_of_ble_eq_true rfl, Nat.le_of_ble_eq_true rfl⟩ ⟨Nat.zero_le _, Nat.zero_le _⟩ rfl (Nat.le_of_ble_eq_true rfl) (fun _ => ?_)
    refine g_aload_n C dX12_read_50 rfl ?_
    refine g_iconst C dX12_read_51 ?_
    obtain ⟨σ14, qσ14, h⟩ := bnd h
    refine g_putI (j := 11) C dX12_read_52 rfl (Nat.le_of_ble_eq_true rfl) (Nat.le_of_ble_eq_true rfl) fl_12_259 rfl rfl rfl rfl qσ14 (by decide) ?_
    refine g_aload_n C dX12_read_55 rfl ?_
    refine g_iconst C dX12_read_56 ?_
    obtain ⟨σ15, qσ15, h⟩ := bnd h
    refine g_putI (j := 12) C dX12_read_57 rfl (Nat.le_of_ble_eq_true rfl) (Nat.le_of_ble_eq_true rfl) fl_12_256 rfl rfl rfl rfl qσ15 (by decide) ?_
    refine g_aload_n C dX12_read_60 rfl ?_
    refine g_iconst C dX12_read_61 ?_
    obtain ⟨σ16, qσ16, h⟩ := bnd h
    refine g_putI (j := 14) C dX12_read_62 rfl (Nat.le_of_ble_eq_true rfl) (Nat.le_of_ble_eq_true rfl) fl_12_265 rfl rfl rfl rfl qσ16 (by decide) ?_
    refine g_aload_n C dX12_read_65 rfl ?_
    refine g_iconst C dX12_read_66 ?_
    refine g_aload_n C dX12_read_67 rfl ?_
    refine g_getI (j := 17) C dX12_read_68 rfl (Nat.le_of_ble_eq_true rfl) (Nat.le_of_ble_eq_true rfl) fl_12_283 rfl rfl (fun i17 => ?_)
    refine g_isub C dX12_read_71 ?_
    obtain ⟨σ18, qσ18, h⟩ := bnd h
    refine g_putI (j := 18) C dX12_read_72 rfl (Nat.le_of_ble_eq_true rfl) (Nat.le_of_ble_eq_true rfl) fl_12_286 rfl rfl rfl rfl qσ18 (iwr _) ?_
    refine g_aload_n C dX12_read_75 rfl ?_
    refine g_getR (j := 19) C dX12_read_76 rfl (Nat.le_of_ble_eq_true rfl) (Nat.le_of_ble_eq_true rfl) fl_12_40 rfl rfl (r := 178) rfl ?_
    refine g_aload_n C dX12_read_79 rfl ?_
    refine g_getI (j := 18) C dX12_read_80 rfl (Nat.le_of_ble_eq_true rfl) (Nat.le_of_ble_eq_true rfl) fl_12_286 rfl rfl (fun i19 => ?_)
    refine g_iconst C dX12_read_83 ?_
    obtain ⟨σ20, qσ20, h⟩ := bnd h
    refine g_iast C dX12_read_84 rfl rfl qσ20 i19 (by decide) ?_
    refine g_aload_n C dX12_read_85 rfl ?_
    refine g_sipush C dX12_read_86 rfl ?_
    refine g_aload_n C dX12_read_89 rfl ?_
    refine g_getI (j := 18) C dX12_read_90 rfl (Nat.le_of_ble_eq_true rfl) (Nat.le_of_ble_eq_true rfl) fl_12_286 rfl rfl (fun i21 => ?_)
    refine g_imul C dX12_read_93 ?_
    obtain ⟨σ22, qσ22, h⟩ := bnd h
    refine g_putI (j := 22) C dX12_read_94 rfl (Nat.le_of_ble_eq_true rfl) (Nat.le_of_ble_eq_true rfl) fl_12_289 rfl rfl rfl rfl qσ22 (iwr _) ?_
    obtain ⟨b23, hb23, hF23⟩ := bnd h
    have hX23 : ∀ (σ30 : St) , σ30 = b23 → GM w p l e rm_X12_read s m args below meth c (some (iv y)) (InI y) σ' 2 119 [some (rv w 170), none] [] σ30 := by
      intro σ30 q
      subst q
      have h := hF23
      refine g_aload_n C dX12_read_119 rfl ?_
      refine g_aload_n C dX12_read_120 rfl ?_
      refine g_getI (j := 12) C dX12_read_121 rfl (Nat.le_of_ble_eq_true rfl) (Nat.le_of_ble_eq_true rfl) fl_12_256 rfl rfl (fun i31 => ?_)
      have hJ149_53 : ∀ (x37 : Int) , InI x37 → m_X12_read_J149 σ30 x37 = some (y, σ') → GM w p l e rm_X12_read s m args below meth c (some (iv y)) (InI y) σ' 2 149 [some (rv w 170), none] [iv x37, rv w 170] σ30 := by
        intro x37 ix37 h
        unfold m_X12_read_J149 at h
        obtain ⟨σ38, qσ38, h⟩ := bnd h
        refine g_putI (j := 16) C dX12_read_149 rfl (Nat.le_of_ble_eq_true rfl) (Nat.le_of_ble_eq_true rfl) fl_12_37 rfl rfl rfl rfl qσ38 ix37 ?_
        refine g_aload_n C dX12_read_152 rfl ?_
        refine g_getI (j := 12) C dX12_read_153 rfl (Nat.le_of_ble_eq_true rfl) (Nat.le_of_ble_eq_true rfl) fl_12_256 rfl rfl (fun i39 => ?_)
        refine g_if_le C dX12_read_156 i39 rfl (tgt := 164) (fun c40 => ?_) (fun c40 => ?_)
        · have h := ifT c40 h
          refine g_aload_n C dX12_read_164 rfl ?_
          refine g_getI (j := 14) C dX12_read_165 rfl (Nat.le_of_ble_eq_true rfl) (Nat.le_of_ble_eq_true rfl) fl_12_265 rfl rfl (fun i41 => ?_)
          refine g_if_le C dX12_read_168 i41 rfl (tgt := 176) (fun c42 => ?_) (fun c42 => ?_)
          · have h := ifT c42 h
            refine g_aload_n C dX12_read_176 rfl ?_
            refine g_aload_n C dX12_read_177 rfl ?_
            refine g_getI (j := 18) C dX12_read_178 rfl (Nat.le_of_ble_eq_true rfl) (Nat.le_of_ble_eq_true rfl) fl_12_286 rfl rfl (fun i43 => ?_)
            obtain ⟨σ44, qσ44, h⟩ := bnd h
            refine g_putI (j := 17) C dX12_read_181 rfl (Nat.le_of_ble_eq_true rfl) (Nat.le_of_ble_eq_true rfl) fl_12_283 rfl rfl rfl rfl qσ44 i43 ?_
            refine g_iconst C dX12_read_184 ?_
            refine g_istore_n (L1 := [some (rv w 170), some (iv 0)]) C dX12_read_185 rfl (Nat.le_of_ble_eq_true rfl) rfl ?_
            obtain ⟨b45, hb45, hF45⟩ := bnd h
            have hX45 : ∀ (σ50 : St) , σ50 = b45 → GM w p l e rm_X12_read s m args below meth c (some (iv y)) (InI y) σ' 2 205 [none, none] [] σ50 := by
              intro σ50 q
              subst q
              have h := hF45
              refine g_iconst C dX12_read_205 ?_
              exact g_iretP C dX12_read_206 hr hlk h (by decide)
            have hL45 : ∀ (n : Nat) (x46 : Int) (σ47 : St) , InI x46 → lpN (fun a => m_X12_read_L186 a.1 a.2) n (x46, σ47) = some b45 → GM w p l e rm_X12_read s m args below meth c (some (iv y)) (InI y) σ' 2 186 [some (rv w 170), some (iv x46)] [] σ47 := by
              intro n
              induction n with
              | zero => intro x46 σ47 ix46 q; cases q
              | succ n ih45 =>
                intro x46 σ47 ix46 q
                obtain ⟨o45, h, hk45⟩ := lp_step q
                replace h : m_X12_read_L186 x46 σ47 = some o45 := h
                unfold m_X12_read_L186 at h
                refine g_iload_n C dX12_read_186 rfl ?_
                refine g_bipush C dX12_read_187 rfl ?_
                refine g_icmp_ge C dX12_read_189 ix46 (by decide) rfl (tgt := 205) (fun c48 => ?_) (fun c48 => ?_)
                · have h := ifT c48 h
                  refine g_mask [false, false] ?_
                  obtain rfl := Option.some.inj h
                  exact hX45 σ47 (lpR hk45).symm
                · have h := ifF c48 h
                  refine g_aload_n C dX12_read_192 rfl ?_
                  refine g_getR (j := 38) C dX12_read_193 rfl (Nat.le_of_ble_eq_true rfl) (Nat.le_of_ble_eq_true rfl) fl_12_82 rfl rfl (r := 192) rfl ?_
                  refine g_iload_n C dX12_read_196 rfl ?_
                  refine g_iconst C dX12_read_197 ?_
                  obtain ⟨σ49, qσ49, h⟩ := bnd h
                  refine g_iast C dX12_read_198 rfl rfl qσ49 ix46 (by decide) ?_
                  refine g_iinc (L1 := [some (rv w 170), some (iv (wr (x46 + 1)))]) C dX12_read_199 rfl rfl (Nat.le_of_ble_eq_true rfl) rfl ?_
                  refine g_goto C dX12_read_202 rfl (tgt := 186) ?_
                  obtain rfl := Option.some.inj h
                  exact ih45 _ _ (iwr _) (lpL hk45)
            exact hL45 FU _ _ (by decide) hb45
          · have h := ifF c42 h
            refine g_aload_n C dX12_read_171 rfl ?_
            refine g_getI (j := 14) C dX12_read_172 rfl (Nat.le_of_ble_eq_true rfl) (Nat.le_of_ble_eq_true rfl) fl_12_265 rfl rfl (fun i51 => ?_)
            exact g_iretP C dX12_read_175 hr hlk h i51
        · have h := ifF c40 h
          refine g_aload_n C dX12_read_159 rfl ?_
          refine g_getI (j := 12) C dX12_read_160 rfl (Nat.le_of_ble_eq_true rfl) (Nat.le_of_ble_eq_true rfl) fl_12_256 rfl rfl (fun i52 => ?_)
          exact g_iretP C dX12_read_163 hr hlk h i52
      refine g_if_le C dX12_read_124 i31 rfl (tgt := 134) (fun c32 => ?_) (fun c32 => ?_)
      · have h := ifT c32 h
        refine g_aload_n C dX12_read_134 rfl ?_
        refine g_getI (j := 14) C dX12_read_135 rfl (Nat.le_of_ble_eq_true rfl) (Nat.le_of_ble_eq_true rfl) fl_12_265 rfl rfl (fun i33 => ?_)
        refine g_if_le C dX12_read_138 i33 rfl (tgt := 148) (fun c34 => ?_) (fun c34 => ?_)
        · have h := ifT c34 h
          refine g_iconst C dX12_read_148 ?_
          exact hJ149_53 (-1) (by decide) h
        · have h := ifF c34 h
          refine g_aload_n C dX12_read_141 rfl ?_
          refine g_getI (j := 15) C dX12_read_142 rfl (Nat.le_of_ble_eq_true rfl) (Nat.le_of_ble_eq_true rfl) fl_12_268 rfl rfl (fun i35 => ?_)
          refine g_goto C dX12_read_145 rfl (tgt := 149) ?_
          exact hJ149_53 (σ30 170 15) i35 h
      · have h := ifF c32 h
        refine g_aload_n C dX12_read_127 rfl ?_
        refine g_getI (j := 13) C dX12_read_128 rfl (Nat.le_of_ble_eq_true rfl) (Nat.le_of_ble_eq_true rfl) fl_12_262 rfl rfl (fun i36 => ?_)
        refine g_goto C dX12_read_131 rfl (tgt := 149) ?_
        exact hJ149_53 (σ30 170 13) i36 h
    have hL23 : ∀ (n : Nat) (σ24 : St) , lpN (fun a => m_X12_read_L97 a) n σ24 = some b23 → GM w p l e rm_X12_read s m args below meth c (some (iv y)) (InI y) σ' 2 97 [some (rv w 170), none] [] σ24 := by
      intro n
      induction n with
      | zero => intro σ24 q; cases q
      | succ n ih23 =>
        intro σ24 q
        obtain ⟨o23, h, hk23⟩ := lp_step q
        replace h : m_X12_read_L97 σ24 = some o23 := h
        unfold m_X12_read_L97 at h
        refine g_aload_n C dX12_read_97 rfl ?_
        refine g_getI (j := 12) C dX12_read_98 rfl (Nat.le_of_ble_eq_true rfl) (Nat.le_of_ble_eq_true rfl) fl_12_256 rfl rfl (fun i25 => ?_)
        refine g_if_ne C dX12_read_101 i25 rfl (tgt := 119) (fun c26 => ?_) (fun c26 => ?_)
        · have h := ifF c26 h
          obtain rfl := Option.some.inj h
          exact hX23 σ24 (lpR hk23).symm
        · have h := ifT c26 h
          refine g_aload_n C dX12_read_104 rfl ?_
          refine g_iconst C dX12_read_105 ?_
          obtain ⟨x27, qx27, h⟩ := bnd h
          refine g_callV1 (As := [iv 0]) C dX12_read_106 mi_X12_is ml_12_274 (ct_X12_is (by decide) qx27) rfl rfl ⟨rfl, rfl⟩ ⟨Nat.le_of_ble_eq_true rfl, Nat.le_of_ble_eq_true rfl⟩ ⟨Nat.zero_le _, Nat.zero_le _⟩ rfl (Nat.le_of_ble_eq_true rfl) (fun ix27 => ?_)
          refine g_if_ne C dX12_read_109 (zI ix27) rfl (tgt := 119) (fun c28 => ?_) (fun c28 => ?_)
          · have h := ifF c28 h
            obtain rfl := Option.some.inj h
            exact hX23 σ24 (lpR hk23).symm
          · have h := ifT c28 h
            refine g_aload_n C dX12_read_112 rfl ?_
            obtain ⟨σ29, qσ29, h⟩ := bnd h
            refine g_callV0 (As := []) C dX12_read_113 mi_X12_tellCode ml_12_292 (ct_X12_tellCode qσ29) rfl rfl ⟨rfl, rfl⟩ ⟨Nat.le_of_ble_eq_true rfl, Nat.le_of_ble_eq_true rfl⟩ ⟨Nat.zero_le _, Nat.zero_le _⟩ rfl (Nat.le_of_ble_eq_true rfl) (fun _ => ?_)
            refine g_goto C dX12_read_116 rfl (tgt := 97) ?_
            obtain rfl := Option.some.inj h
            exact ih23 _ (lpL hk23)
    exact hL23 FU _ hb23
  have hL4 : ∀ (n : Nat) (x5 : Int) (σ6 : St) , InI x5 → lpN (fun a => m_X12_read_L15 a.1 a.2) n (x5, σ6) = some b4 → GM w p l e rm_X12_read s m args below meth c (some (iv y)) (InI y) σ' 2 15 [some (rv w 170), some (iv x5)] [] σ6 := by
    intro n
    induction n with
    | zero => intro x5 σ6 ix5 q; cases q
    | succ n ih4 =>
      intro x5 σ6 ix5 q
      obtain ⟨o4, h, hk4⟩ := lp_step q
      replace h : m_X12_read_L15 x5 σ6 = some o4 := h
      unfold m_X12_read_L15 at h
      refine g_iload_n C dX12_read_15 rfl ?_
      refine g_aload_n C dX12_read_16 rfl ?_
      refine g_getI (j := 4) C dX12_read_17 rfl (Nat.le_of_ble_eq_true rfl) (Nat.le_of_ble_eq_true rfl) fl_12_229 rfl rfl (fun i7 => ?_)
      refine g_icmp_ge C dX12_read_20 ix5 i7 rfl (tgt := 41) (fun c8 => ?_) (fun c8 => ?_)
      · have h := ifT c8 h
        refine g_mask [true, false] ?_
        obtain rfl := Option.some.inj h
        exact hX4 σ6 (lpR hk4).symm
      · have h := ifF c8 h
        refine g_aload_n C dX12_read_23 rfl ?_
        refine g_getR (j := 3) C dX12_read_24 rfl (Nat.le_of_ble_eq_true rfl) (Nat.le_of_ble_eq_true rfl) fl_12_17 rfl rfl (r := 172) rfl ?_
        refine g_iload_n C dX12_read_27 rfl ?_
        refine g_aload_n C dX12_read_28 rfl ?_
        refine g_getR (j := 1) C dX12_read_29 rfl (Nat.le_of_ble_eq_true rfl) (Nat.le_of_ble_eq_true rfl) fl_12_13 rfl rfl (r := 171) rfl ?_
        refine g_iload_n C dX12_read_32 rfl ?_
        obtain ⟨x9, qx9, h⟩ := bnd h
        refine g_bald C dX12_read_33 rfl rfl qx9 ix5 (fun ix9 => ?_)
        obtain ⟨σ10, qσ10, h⟩ := bnd h
        refine g_bast C dX12_read_34 rfl rfl qσ10 ix5 ix9 ?_
        refine g_iinc (L1 := [some (rv w 170), some (iv (wr (x5 + 1)))]) C dX12_read_35 rfl rfl (Nat.le_of_ble_eq_true rfl) rfl ?_
        refine g_goto C dX12_read_38 rfl (tgt := 15) ?_
        obtain rfl := Option.some.inj h
        exact ih4 _ _ (iwr _) (lpL hk4)
  exact hL4 FU _ _ (by decide) hb4
